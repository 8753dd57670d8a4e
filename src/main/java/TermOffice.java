import java.util.Arrays;

/**
 * An office with terms: nominations, ranked ballots, terms within limits, recalls,
 * caretakers, and grades with codes that make a reputation.
 *
 * <p>Sets of members are ints, with bit m standing for member m.
 */
public final class TermOffice {
    public static final int BAD = -1;
    public static final int STATE = -2;
    public static final int FULL = -3;
    public static final int LIMIT = -4;
    public static final int FORGED = -5;
    public static final int NONE = -9;

    private static final int MOST_MEMBERS = 10;
    private static final int MOST_TERMS = 40;
    private static final int MOST_EVENTS_KEPT = 20;
    private static final int MOST_STATES_KEPT = 5;
    private static final int MOST_CHARACTERS = 40;
    private static final int MOST_UNITS = 1000;
    private static final int MOST_TIME = 1000000;
    private static final int MOST_DEEDS = 20;
    private static final int MOST_POINTS = 10;
    private static final int MOST_SCORE = 100;
    private static final int GRADING_TIME = 50;
    private static final int CODE_MODULUS = 997;
    private static final int FIRST_CHARACTER = 32;
    private static final int LAST_CHARACTER = 126;
    private static final int USUAL_SCORE = 50;
    private static final int DEED_WEIGHT = 5;
    private static final int RECALL_LOSS = 25;
    private static final int TERM_NUMBERS = 8;
    private static final int MEMBER_NUMBERS = 6;
    private static final int EVENT_NUMBERS = 3;
    private static final long FIRST_FINGERPRINT = 83L;

    private static final int LENGTH_OF_TERM = 0;
    private static final int LIMIT_IN_ALL = 1;
    private static final int LIMIT_IN_A_ROW = 2;
    private static final int RECALL_SHARE = 3;
    private static final int QUORUM = 4;
    private static final int MEMORY = 5;
    private static final int SETTINGS = 6;
    private static final int[] LEAST_VALUES = {10, 1, 1, 1, 0, 1};
    private static final int[] GREATEST_VALUES = {1000, 9, 9, 100, 100, 10};
    private static final int[] INITIAL_VALUES = {100, 2, 1, 50, 50, 3};

    private static final int VACANT = 0;
    private static final int KEPT = 1;
    private static final int LED = 2;

    private static final int TERM_BEGINS = 1;
    private static final int OVER_AS_PLANNED = 2;
    private static final int RECALLED = 3;
    private static final int LEADER_ABSENT = 4;
    private static final int CARETAKER_APPOINTED = 5;
    private static final int NOBODY_ELECTED = 6;
    private static final int OFFICE_VACANT = 7;

    private final BallotText text = new BallotText();
    private final State state = new State();
    private final History history = new History();

    public TermOffice() {
    }

    public int set(int setting, int value) {
        if (setting < 0 || setting >= SETTINGS) {
            return BAD;
        }
        if (value < LEAST_VALUES[setting] || value > GREATEST_VALUES[setting]) {
            return BAD;
        }
        history.keep(state);
        int previous = state.settings[setting];
        state.settings[setting] = value;
        if (setting == RECALL_SHARE) {
            state.lookAtPetition();
        }
        return previous;
    }

    public int join(int key) {
        if (key < 0 || key >= CODE_MODULUS) {
            return BAD;
        }
        if (state.memberCount >= MOST_MEMBERS) {
            return FULL;
        }
        history.keep(state);
        int member = state.admit(key);
        state.lookAtPetition();
        return member;
    }

    public int setPresent(int member, boolean present) {
        if (!state.isMember(member)) {
            return BAD;
        }
        history.keep(state);
        boolean before = state.isPresent(member);
        if (present == before) {
            return asNumber(before);
        }
        if (present) {
            state.present |= only(member);
        } else {
            state.leave(member);
        }
        state.lookAtPetition();
        return asNumber(before);
    }

    public int pass(int units) {
        if (units < 1 || units > MOST_UNITS) {
            return BAD;
        }
        if (state.now + units > MOST_TIME) {
            return STATE;
        }
        history.keep(state);
        state.advance(units);
        return state.now;
    }

    public int open() {
        if (state.election.isOpen || state.officeState == LED) {
            return STATE;
        }
        if (state.book.count >= MOST_TERMS) {
            return FULL;
        }
        history.keep(state);
        state.election.isOpen = true;
        return state.book.count + 1;
    }

    public int nominate(int member) {
        if (!state.isMember(member)) {
            return BAD;
        }
        if (!state.election.isOpen || has(state.election.candidates, member)) {
            return STATE;
        }
        if (!state.canLead(member)) {
            return LIMIT;
        }
        history.keep(state);
        state.election.candidates |= only(member);
        return Integer.bitCount(state.election.candidates);
    }

    public int cast(int member) {
        if (!state.isMember(member)) {
            return BAD;
        }
        if (!state.election.isOpen || !state.isPresent(member)) {
            return STATE;
        }
        int place = text.errorPlace(state.election.candidates);
        if (place != NONE) {
            return -100 - place;
        }
        history.keep(state);
        state.election.take(member, text);
        text.length = 0;
        return state.election.countBallots();
    }

    public int close() {
        if (!state.election.isOpen || state.election.candidates == 0) {
            return STATE;
        }
        history.keep(state);
        return state.elect();
    }

    public int rounds() {
        return state.race.roundsHeld;
    }

    public int tally(int round, int member) {
        if (round < 0 || round >= state.race.roundsHeld || !state.isMember(member)) {
            return BAD;
        }
        return state.race.votesFor(member, round);
    }

    public int ballot(int member, int k) {
        if (!state.isMember(member) || k < 0) {
            return BAD;
        }
        if (!state.election.isOpen) {
            return STATE;
        }
        if (k >= MOST_MEMBERS) {
            return NONE;
        }
        return state.election.choice(member, k);
    }

    public int office() {
        return state.officeState;
    }

    public int holder() {
        return state.keeper;
    }

    public int deed(boolean good) {
        if (state.officeState != LED) {
            return STATE;
        }
        int deeds = state.book.latestDeeds() + (good ? 1 : -1);
        if (deeds > MOST_DEEDS || deeds < -MOST_DEEDS) {
            return STATE;
        }
        history.keep(state);
        state.book.setLatestDeeds(deeds);
        return deeds;
    }

    public int sign(int member, boolean on) {
        if (!state.isMember(member)) {
            return BAD;
        }
        if (state.officeState != LED || !state.isPresent(member) || member == state.keeper) {
            return STATE;
        }
        if (has(state.signed, member) == on) {
            return STATE;
        }
        history.keep(state);
        if (on) {
            state.signed |= only(member);
            state.lookAtPetition();
        } else {
            state.signed &= ~only(member);
        }
        return state.countSignatures();
    }

    public int grade(int member, int term, int points, int code) {
        if (!state.isMember(member) || !state.book.isTerm(term)) {
            return BAD;
        }
        if (points < 0 || points > MOST_POINTS) {
            return BAD;
        }
        if (!state.book.mayGrade(member, term, state.now)) {
            return STATE;
        }
        if (code != (31 * term + 17 * member + 7 * points + state.keys[member]) % CODE_MODULUS) {
            return FORGED;
        }
        history.keep(state);
        state.book.putGrade(member, term, points);
        return state.book.countGrades(term);
    }

    public int term(int term, int what) {
        if (!state.book.isTerm(term) || what < 0 || what >= TERM_NUMBERS) {
            return BAD;
        }
        return state.book.number(term, what);
    }

    public int points(int member, int term) {
        if (!state.isMember(member) || !state.book.isTerm(term)) {
            return BAD;
        }
        return state.book.givenPoints(member, term);
    }

    public int terms() {
        return state.book.count;
    }

    public int member(int member, int what) {
        if (!state.isMember(member) || what < 0 || what >= MEMBER_NUMBERS) {
            return BAD;
        }
        return state.numberOf(member, what);
    }

    public int time() {
        return state.now;
    }

    public int events() {
        return state.chronicle.count;
    }

    public int event(int i, int what) {
        if (i < 0 || what < 0 || what >= EVENT_NUMBERS) {
            return BAD;
        }
        return state.chronicle.number(i, what);
    }

    public int type(int c) {
        if (c < FIRST_CHARACTER || c > LAST_CHARACTER) {
            return BAD;
        }
        return text.append(c);
    }

    public int clear() {
        int had = text.length;
        text.length = 0;
        return had;
    }

    public int undo() {
        if (history.count <= 0) {
            return NONE;
        }
        history.restore(state);
        return history.count;
    }

    public long fingerprint() {
        long mark = FIRST_FINGERPRINT;
        mark = mixed(mark, state.now);
        mark = mixed(mark, state.officeState);
        mark = mixed(mark, state.keeper);
        mark = mixed(mark, state.book.count);
        mark = mixed(mark, state.chronicle.count);
        for (int term = 1; term <= state.book.count; term++) {
            for (int what = 0; what < TERM_NUMBERS; what++) {
                mark = mixed(mark, state.book.number(term, what));
            }
        }
        mark = mixed(mark, state.memberCount);
        for (int m = 0; m < state.memberCount; m++) {
            for (int what = 0; what < MEMBER_NUMBERS; what++) {
                mark = mixed(mark, state.numberOf(m, what));
            }
        }
        return mark;
    }

    private static long mixed(long mark, int number) {
        return 31L * mark + number;
    }

    private static int only(int member) {
        return 1 << member;
    }

    private static boolean has(int members, int member) {
        return (members >> member & 1) == 1;
    }

    private static int asNumber(boolean truth) {
        return truth ? 1 : 0;
    }

    /** The buffer in which a ballot is written. */
    private static final class BallotText {
        final int[] characters = new int[MOST_CHARACTERS];
        int length;

        int append(int c) {
            if (length >= MOST_CHARACTERS) {
                return FULL;
            }
            characters[length] = c;
            length++;
            return length;
        }

        /** NONE if the text is a ballot. */
        int errorPlace(int candidates) {
            int allowed = candidates;
            for (int i = 0; i < length; i++) {
                if (i % 2 == 1) {
                    if (characters[i] != '>') {
                        return i;
                    }
                } else {
                    int digit = characters[i] - '0';
                    if (digit < 0 || digit > 9 || !has(allowed, digit)) {
                        return i;
                    }
                    allowed &= ~only(digit);
                }
            }
            return length % 2 == 1 ? NONE : length;
        }

        /** Only for a text without an error. */
        int choice(int place) {
            int i = 2 * place;
            return i < length ? characters[i] - '0' : NONE;
        }
    }

    /** The candidates and the ballots, of which there are none while no election is open. */
    private static final class Election {
        boolean isOpen;
        int candidates;
        /** A row for each voter, filled up with NONE behind the last choice. */
        final int[] ballots = new int[MOST_MEMBERS * MOST_MEMBERS];

        Election() {
            Arrays.fill(ballots, NONE);
        }

        void copy(Election other) {
            isOpen = other.isOpen;
            candidates = other.candidates;
            System.arraycopy(other.ballots, 0, ballots, 0, ballots.length);
        }

        void finish() {
            isOpen = false;
            candidates = 0;
            Arrays.fill(ballots, NONE);
        }

        int choice(int voter, int place) {
            return ballots[voter * MOST_MEMBERS + place];
        }

        void take(int voter, BallotText text) {
            for (int place = 0; place < MOST_MEMBERS; place++) {
                ballots[voter * MOST_MEMBERS + place] = text.choice(place);
            }
        }

        int countBallots() {
            int ballotCount = 0;
            for (int voter = 0; voter < MOST_MEMBERS; voter++) {
                if (choice(voter, 0) != NONE) {
                    ballotCount++;
                }
            }
            return ballotCount;
        }

        void forget(int member) {
            candidates &= ~only(member);
            for (int place = 0; place < MOST_MEMBERS; place++) {
                ballots[member * MOST_MEMBERS + place] = NONE;
            }
            for (int voter = 0; voter < MOST_MEMBERS; voter++) {
                strike(voter, member);
            }
        }

        private void strike(int voter, int candidate) {
            int row = voter * MOST_MEMBERS;
            int kept = 0;
            for (int place = 0; place < MOST_MEMBERS; place++) {
                int chosen = ballots[row + place];
                if (chosen != candidate) {
                    ballots[row + kept] = chosen;
                    kept++;
                }
            }
            for (int place = kept; place < MOST_MEMBERS; place++) {
                ballots[row + place] = NONE;
            }
        }

        int firstAmong(int running, int voter) {
            for (int place = 0; place < MOST_MEMBERS; place++) {
                int chosen = choice(voter, place);
                if (chosen != NONE && has(running, chosen)) {
                    return chosen;
                }
            }
            return NONE;
        }
    }

    /** The rounds of the latest election that was closed. */
    private static final class Race {
        int roundsHeld;
        /** A row for each round, with NONE for those who were not in the race. */
        final int[] votes = new int[MOST_MEMBERS * MOST_MEMBERS];

        void copy(Race other) {
            roundsHeld = other.roundsHeld;
            System.arraycopy(other.votes, 0, votes, 0, votes.length);
        }

        int votesFor(int member, int round) {
            return votes[round * MOST_MEMBERS + member];
        }

        void count(int round, int running, Election election) {
            int row = round * MOST_MEMBERS;
            for (int m = 0; m < MOST_MEMBERS; m++) {
                votes[row + m] = has(running, m) ? 0 : NONE;
            }
            for (int voter = 0; voter < MOST_MEMBERS; voter++) {
                int chosen = election.firstAmong(running, voter);
                if (chosen >= 0 && chosen < MOST_MEMBERS) {
                    votes[row + chosen]++;
                }
            }
            roundsHeld = round + 1;
        }

        int winner(int round, int running) {
            boolean isAlone = Integer.bitCount(running) == 1;
            int all = countAll(round, running);
            for (int m = 0; m < MOST_MEMBERS; m++) {
                if (has(running, m) && (isAlone || 2 * votesFor(m, round) > all)) {
                    return m;
                }
            }
            return NONE;
        }

        private int countAll(int round, int running) {
            int all = 0;
            for (int m = 0; m < MOST_MEMBERS; m++) {
                if (has(running, m)) {
                    all += votesFor(m, round);
                }
            }
            return all;
        }
    }

    /** The terms. Rows are found by the number of a term, so row 0 stays unused. */
    private static final class TermBook {
        int count;
        final int[] leaders = new int[MOST_TERMS + 1];
        final int[] beginnings = new int[MOST_TERMS + 1];
        final int[] plannedEnds = new int[MOST_TERMS + 1];
        /** NONE while the term is not over. */
        final int[] ends = new int[MOST_TERMS + 1];
        final int[] deeds = new int[MOST_TERMS + 1];
        final int[] recalls = new int[MOST_TERMS + 1];
        final int[] witnesses = new int[MOST_TERMS + 1];
        /** A row of members for each term, with NONE where there is no grade. */
        final int[] grades = new int[(MOST_TERMS + 1) * MOST_MEMBERS];

        void copy(TermBook other) {
            count = other.count;
            copyRow(other.leaders, leaders);
            copyRow(other.beginnings, beginnings);
            copyRow(other.plannedEnds, plannedEnds);
            copyRow(other.ends, ends);
            copyRow(other.deeds, deeds);
            copyRow(other.recalls, recalls);
            copyRow(other.witnesses, witnesses);
            copyRow(other.grades, grades);
        }

        private static void copyRow(int[] from, int[] to) {
            System.arraycopy(from, 0, to, 0, to.length);
        }

        boolean isTerm(int term) {
            return term >= 1 && term <= count;
        }

        void begin(int leader, int time, int length, int present) {
            if (count >= MOST_TERMS) {
                return;
            }
            count++;
            leaders[count] = leader;
            beginnings[count] = time;
            plannedEnds[count] = time + length;
            ends[count] = NONE;
            deeds[count] = 0;
            recalls[count] = 0;
            witnesses[count] = present;
            for (int m = 0; m < MOST_MEMBERS; m++) {
                grades[count * MOST_MEMBERS + m] = NONE;
            }
        }

        void finishLatest(int time, boolean recalled) {
            ends[count] = time;
            recalls[count] = asNumber(recalled);
        }

        int latestPlannedEnd() {
            return plannedEnds[count];
        }

        int latestDeeds() {
            return deeds[count];
        }

        void setLatestDeeds(int number) {
            deeds[count] = number;
        }

        boolean isOver(int term) {
            return ends[term] != NONE;
        }

        boolean mayGrade(int member, int term, int time) {
            if (!isOver(term) || time - ends[term] > GRADING_TIME) {
                return false;
            }
            return member != leaders[term] && has(witnesses[term], member);
        }

        void putGrade(int member, int term, int points) {
            grades[term * MOST_MEMBERS + member] = points;
        }

        int givenPoints(int member, int term) {
            return grades[term * MOST_MEMBERS + member];
        }

        int countGrades(int term) {
            int gradeCount = 0;
            for (int m = 0; m < MOST_MEMBERS; m++) {
                if (givenPoints(m, term) != NONE) {
                    gradeCount++;
                }
            }
            return gradeCount;
        }

        /** Calls nothing: it stands at the end of the longest chain of calls (rule 11). */
        int score(int term) {
            int sum = 0;
            int gradeCount = 0;
            for (int m = 0; m < MOST_MEMBERS; m++) {
                int given = grades[term * MOST_MEMBERS + m];
                if (given != NONE) {
                    sum += given;
                    gradeCount++;
                }
            }
            int graded = gradeCount > 0 ? 10 * sum / gradeCount : USUAL_SCORE;
            int whole = graded + DEED_WEIGHT * deeds[term] - RECALL_LOSS * recalls[term];
            if (whole < 0) {
                return 0;
            }
            return whole > MOST_SCORE ? MOST_SCORE : whole;
        }

        int number(int term, int what) {
            switch (what) {
                case 0: return leaders[term];
                case 1: return beginnings[term];
                case 2: return plannedEnds[term];
                case 3: return ends[term];
                case 4: return deeds[term];
                case 5: return recalls[term];
                case 6: return countGrades(term);
                default: return isOver(term) ? score(term) : NONE;
            }
        }

        int countLed(int member) {
            int led = 0;
            for (int term = 1; term <= count; term++) {
                if (leaders[term] == member) {
                    led++;
                }
            }
            return led;
        }

        int countLedInARow(int member) {
            int led = 0;
            for (int term = count; term >= 1 && leaders[term] == member; term--) {
                led++;
            }
            return led;
        }

        int reputation(int member, int memory) {
            int sum = 0;
            int counted = 0;
            for (int term = count; term >= 1 && counted < memory; term--) {
                if (leaders[term] == member && ends[term] != NONE) {
                    sum += score(term);
                    counted++;
                }
            }
            return counted > 0 ? sum / counted : USUAL_SCORE;
        }
    }

    /** The latest events, in a ring. */
    private static final class Chronicle {
        int count;
        final int[] times = new int[MOST_EVENTS_KEPT];
        final int[] kinds = new int[MOST_EVENTS_KEPT];
        final int[] members = new int[MOST_EVENTS_KEPT];

        void copy(Chronicle other) {
            count = other.count;
            System.arraycopy(other.times, 0, times, 0, times.length);
            System.arraycopy(other.kinds, 0, kinds, 0, kinds.length);
            System.arraycopy(other.members, 0, members, 0, members.length);
        }

        void tell(int time, int kind, int member) {
            int place = count % MOST_EVENTS_KEPT;
            times[place] = time;
            kinds[place] = kind;
            members[place] = member;
            count++;
        }

        int number(int i, int what) {
            if (i >= count || i >= MOST_EVENTS_KEPT) {
                return NONE;
            }
            int place = (count - 1 - i) % MOST_EVENTS_KEPT;
            switch (what) {
                case 0: return times[place];
                case 1: return kinds[place];
                default: return members[place];
            }
        }
    }

    /** Everything that an act can change but the buffer, so that undo can restore it. */
    private static final class State {
        final int[] settings = new int[SETTINGS];
        int now;
        int memberCount;
        final int[] keys = new int[MOST_MEMBERS];
        int present;
        int signed;
        int officeState = VACANT;
        int keeper = NONE;
        final Election election = new Election();
        final Race race = new Race();
        final TermBook book = new TermBook();
        final Chronicle chronicle = new Chronicle();

        State() {
            System.arraycopy(INITIAL_VALUES, 0, settings, 0, SETTINGS);
        }

        void copy(State other) {
            System.arraycopy(other.settings, 0, settings, 0, SETTINGS);
            now = other.now;
            memberCount = other.memberCount;
            System.arraycopy(other.keys, 0, keys, 0, MOST_MEMBERS);
            present = other.present;
            signed = other.signed;
            officeState = other.officeState;
            keeper = other.keeper;
            election.copy(other.election);
            race.copy(other.race);
            book.copy(other.book);
            chronicle.copy(other.chronicle);
        }

        boolean isMember(int member) {
            return member >= 0 && member < memberCount;
        }

        boolean isPresent(int member) {
            return has(present, member);
        }

        /** Only while there is room. */
        int admit(int key) {
            int member = memberCount;
            keys[member] = key;
            memberCount++;
            present |= only(member);
            return member;
        }

        void leave(int member) {
            present &= ~only(member);
            election.forget(member);
            if (member == keeper) {
                if (officeState == LED) {
                    endTerm(LEADER_ABSENT);
                } else {
                    appointCaretaker(NONE);
                }
            }
        }

        void advance(int units) {
            int then = now + units;
            // Only one term can be over in one pass: the next one needs an election.
            if (officeState == LED && book.latestPlannedEnd() <= then) {
                now = book.latestPlannedEnd();
                endTerm(OVER_AS_PLANNED);
            }
            now = then;
        }

        int countSignatures() {
            return Integer.bitCount(signed & present);
        }

        void lookAtPetition() {
            if (officeState != LED) {
                return;
            }
            int signatures = countSignatures();
            int others = Integer.bitCount(present & ~only(keeper));
            if (signatures > 0 && 100 * signatures >= settings[RECALL_SHARE] * others) {
                endTerm(RECALLED);
            }
        }

        private void beginTerm(int leader) {
            book.begin(leader, now, settings[LENGTH_OF_TERM], present);
            officeState = LED;
            keeper = leader;
            chronicle.tell(now, TERM_BEGINS, leader);
        }

        private void endTerm(int kind) {
            int leader = keeper;
            book.finishLatest(now, kind == RECALLED);
            signed = 0;
            chronicle.tell(now, kind, leader);
            appointCaretaker(leader);
        }

        private void appointCaretaker(int leftOut) {
            keeper = bestCaretaker(leftOut);
            officeState = keeper == NONE ? VACANT : KEPT;
            chronicle.tell(now, keeper == NONE ? OFFICE_VACANT : CARETAKER_APPOINTED, keeper);
        }

        private int bestCaretaker(int leftOut) {
            int best = NONE;
            int bestReputation = 0;
            int bestLed = 0;
            for (int m = 0; m < MOST_MEMBERS; m++) {
                if (!has(present, m) || m == leftOut) {
                    continue;
                }
                int reputation = book.reputation(m, settings[MEMORY]);
                int led = book.countLed(m);
                if (best == NONE || reputation > bestReputation
                        || reputation == bestReputation && led < bestLed) {
                    best = m;
                    bestReputation = reputation;
                    bestLed = led;
                }
            }
            return best;
        }

        int elect() {
            race.roundsHeld = 0;
            int winner = hasQuorum() ? holdRounds() : NONE;
            election.finish();
            if (winner == NONE) {
                chronicle.tell(now, NOBODY_ELECTED, NONE);
            } else {
                beginTerm(winner);
            }
            return winner;
        }

        private boolean hasQuorum() {
            return 100 * election.countBallots() >= settings[QUORUM] * Integer.bitCount(present);
        }

        private int holdRounds() {
            int running = election.candidates;
            for (int round = 0; round < MOST_MEMBERS; round++) {
                race.count(round, running, election);
                int winner = race.winner(round, running);
                if (winner != NONE) {
                    return winner;
                }
                running &= ~only(weakest(round, running));
            }
            return NONE;
        }

        private int weakest(int round, int running) {
            int found = NONE;
            for (int m = 0; m < MOST_MEMBERS; m++) {
                if (has(running, m) && (found == NONE || leavesRather(m, found, round))) {
                    found = m;
                }
            }
            return found;
        }

        private boolean leavesRather(int member, int smaller, int round) {
            int memory = settings[MEMORY];
            int difference = race.votesFor(member, round) - race.votesFor(smaller, round);
            if (difference == 0) {
                difference = book.reputation(member, memory) - book.reputation(smaller, memory);
            }
            if (difference == 0) {
                difference = book.countLed(smaller) - book.countLed(member);
            }
            // Of equals the one with the greater number leaves.
            return difference <= 0;
        }

        boolean canLead(int member) {
            return isPresent(member)
                && book.countLed(member) < settings[LIMIT_IN_ALL]
                && book.countLedInARow(member) < settings[LIMIT_IN_A_ROW];
        }

        int numberOf(int member, int what) {
            switch (what) {
                case 0: return book.reputation(member, settings[MEMORY]);
                case 1: return book.countLed(member);
                case 2: return asNumber(isPresent(member));
                case 3: return asNumber(canLead(member));
                case 4: return asNumber(has(election.candidates, member));
                default: return asNumber(has(signed, member));
            }
        }
    }

    /** The states before the latest acts, in a ring whose rows are used again. */
    private static final class History {
        final State[] states = new State[MOST_STATES_KEPT];
        int count;
        int next;

        History() {
            for (int i = 0; i < MOST_STATES_KEPT; i++) {
                states[i] = new State();
            }
        }

        void keep(State state) {
            states[next].copy(state);
            next = (next + 1) % MOST_STATES_KEPT;
            count = Math.min(count + 1, MOST_STATES_KEPT);
        }

        void restore(State state) {
            next = (next + MOST_STATES_KEPT - 1) % MOST_STATES_KEPT;
            state.copy(states[next]);
            count--;
        }
    }
}
