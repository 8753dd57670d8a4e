import java.util.ArrayDeque;
import java.util.ArrayList;
import java.util.Comparator;
import java.util.Deque;
import java.util.List;
import java.util.Map;
import java.util.TreeMap;
import java.util.TreeSet;

/**
 * The document once more, written for the reader and not for the room: lists, maps and copies.
 * ModelTest compares TermOffice with it. It shares no code with TermOffice.
 */
final class PlainModel {
    static final int BAD = -1;
    static final int STATE = -2;
    static final int FULL = -3;
    static final int LIMIT = -4;
    static final int FORGED = -5;
    static final int NONE = -9;

    private static final class Member {
        int number;
        int key;
        boolean present;
        boolean signed;
        boolean nominated;
        List<Integer> ballot;

        Member copy() {
            Member m = new Member();
            m.number = number;
            m.key = key;
            m.present = present;
            m.signed = signed;
            m.nominated = nominated;
            m.ballot = ballot == null ? null : new ArrayList<>(ballot);
            return m;
        }
    }

    private static final class Term {
        int leader;
        int beginning;
        int plannedEnd;
        Integer over;
        int deeds;
        boolean recalled;
        TreeSet<Integer> witnesses = new TreeSet<>();
        TreeMap<Integer, Integer> grades = new TreeMap<>();

        Term copy() {
            Term t = new Term();
            t.leader = leader;
            t.beginning = beginning;
            t.plannedEnd = plannedEnd;
            t.over = over;
            t.deeds = deeds;
            t.recalled = recalled;
            t.witnesses.addAll(witnesses);
            t.grades.putAll(grades);
            return t;
        }

        int score() {
            int points = 0;
            for (int p : grades.values()) {
                points += p;
            }
            int score = grades.isEmpty() ? 50 : points * 10 / grades.size();
            score += 5 * deeds;
            if (recalled) {
                score -= 25;
            }
            return score < 0 ? 0 : score > 100 ? 100 : score;
        }
    }

    private static final class World {
        int[] settings = {100, 2, 1, 50, 50, 3};
        int time;
        Integer leader;
        Integer caretaker;
        boolean electionOpen;
        List<Member> members = new ArrayList<>();
        List<Term> terms = new ArrayList<>();
        List<Map<Integer, Integer>> rounds = new ArrayList<>();
        List<int[]> events = new ArrayList<>();

        World copy() {
            World w = new World();
            w.settings = settings.clone();
            w.time = time;
            w.leader = leader;
            w.caretaker = caretaker;
            w.electionOpen = electionOpen;
            for (Member m : members) {
                w.members.add(m.copy());
            }
            for (Term t : terms) {
                w.terms.add(t.copy());
            }
            w.rounds = new ArrayList<>(rounds);
            w.events = new ArrayList<>(events);
            return w;
        }
    }

    private World world = new World();
    private final Deque<World> history = new ArrayDeque<>();
    private String buffer = "";

    private void act() {
        history.addLast(world.copy());
        if (history.size() > 5) {
            history.removeFirst();
        }
    }

    private boolean noMember(int member) {
        return member < 0 || member >= world.members.size();
    }

    private boolean noTerm(int term) {
        return term < 1 || term > world.terms.size();
    }

    private Term currentTerm() {
        return world.terms.get(world.terms.size() - 1);
    }

    private int led(int member) {
        return (int) world.terms.stream().filter(t -> t.leader == member).count();
    }

    private int reputation(int member) {
        List<Integer> scores = new ArrayList<>();
        for (Term t : world.terms) {
            if (t.leader == member && t.over != null) {
                scores.add(t.score());
            }
        }
        while (scores.size() > world.settings[5]) {
            scores.remove(0);
        }
        if (scores.isEmpty()) {
            return 50;
        }
        return scores.stream().mapToInt(s -> s).sum() / scores.size();
    }

    private boolean canLead(int member) {
        int row = 0;
        for (Term t : world.terms) {
            row = t.leader == member ? row + 1 : 0;
        }
        return world.members.get(member).present && led(member) < world.settings[1]
            && row < world.settings[2];
    }

    private List<Member> candidates() {
        return world.members.stream().filter(m -> m.nominated).toList();
    }

    private int ballots() {
        return (int) world.members.stream().filter(m -> m.ballot != null).count();
    }

    private int presentCount() {
        return (int) world.members.stream().filter(m -> m.present).count();
    }

    private int signatures() {
        return (int) world.members.stream().filter(m -> m.present && m.signed).count();
    }

    private void tell(int kind, int member) {
        world.events.add(new int[] {world.time, kind, member});
    }

    private void caretaker(Integer leftOut) {
        Comparator<Member> order = Comparator.comparingInt((Member m) -> -reputation(m.number))
            .thenComparingInt(m -> led(m.number)).thenComparingInt(m -> m.number);
        Member best = world.members.stream().filter(m -> m.present)
            .filter(m -> leftOut == null || m.number != leftOut).min(order).orElse(null);
        world.leader = null;
        world.caretaker = best == null ? null : best.number;
        tell(best == null ? 7 : 5, best == null ? NONE : best.number);
    }

    private void over(int kind) {
        int leader = world.leader;
        currentTerm().over = world.time;
        currentTerm().recalled = kind == 3;
        for (Member m : world.members) {
            m.signed = false;
        }
        tell(kind, leader);
        caretaker(leader);
    }

    private void petition() {
        if (world.leader == null || signatures() == 0) {
            return;
        }
        int others = presentCount() - 1;
        if (signatures() * 100 >= world.settings[3] * others) {
            over(3);
        }
    }

    int set(int setting, int value) {
        int[][] ranges = {{10, 1000}, {1, 9}, {1, 9}, {1, 100}, {0, 100}, {1, 10}};
        if (setting < 0 || setting > 5 || value < ranges[setting][0] || value > ranges[setting][1]) {
            return BAD;
        }
        act();
        int previous = world.settings[setting];
        world.settings[setting] = value;
        petition();
        return previous;
    }

    int join(int key) {
        if (key < 0 || key > 996) {
            return BAD;
        }
        if (world.members.size() == 10) {
            return FULL;
        }
        act();
        Member m = new Member();
        m.number = world.members.size();
        m.key = key;
        m.present = true;
        world.members.add(m);
        petition();
        return m.number;
    }

    int setPresent(int member, boolean present) {
        if (noMember(member)) {
            return BAD;
        }
        act();
        Member m = world.members.get(member);
        boolean before = m.present;
        m.present = present;
        if (before && !present) {
            m.nominated = false;
            m.ballot = null;
            for (Member other : world.members) {
                if (other.ballot != null) {
                    other.ballot.remove(Integer.valueOf(member));
                    if (other.ballot.isEmpty()) {
                        other.ballot = null;
                    }
                }
            }
            if (world.leader != null && world.leader == member) {
                over(4);
            } else if (world.caretaker != null && world.caretaker == member) {
                caretaker(null);
            }
        }
        if (before != present) {
            petition();
        }
        return before ? 1 : 0;
    }

    int pass(int units) {
        if (units < 1 || units > 1000) {
            return BAD;
        }
        if (world.time + units > 1000000) {
            return STATE;
        }
        act();
        for (int i = 0; i < units; i++) {
            world.time++;
            if (world.leader != null && world.time == currentTerm().plannedEnd) {
                over(2);
            }
        }
        return world.time;
    }

    int open() {
        if (world.electionOpen || world.leader != null) {
            return STATE;
        }
        if (world.terms.size() == 40) {
            return FULL;
        }
        act();
        world.electionOpen = true;
        return world.terms.size() + 1;
    }

    int nominate(int member) {
        if (noMember(member)) {
            return BAD;
        }
        Member m = world.members.get(member);
        if (!world.electionOpen || m.nominated) {
            return STATE;
        }
        if (!canLead(member)) {
            return LIMIT;
        }
        act();
        world.members.get(member).nominated = true;
        return candidates().size();
    }

    private int errorPlace() {
        String seen = "";
        for (int i = 0; i <= buffer.length(); i++) {
            boolean wantsDigit = i % 2 == 0;
            if (i == buffer.length()) {
                return wantsDigit ? i : -1;
            }
            char c = buffer.charAt(i);
            if (!wantsDigit && c != '>') {
                return i;
            }
            if (wantsDigit) {
                if (c < '0' || c > '9' || noMember(c - '0') || seen.indexOf(c) >= 0
                        || !world.members.get(c - '0').nominated) {
                    return i;
                }
                seen += c;
            }
        }
        return -1;
    }

    int cast(int member) {
        if (noMember(member)) {
            return BAD;
        }
        if (!world.electionOpen || !world.members.get(member).present) {
            return STATE;
        }
        if (errorPlace() >= 0) {
            return -100 - errorPlace();
        }
        act();
        List<Integer> ballot = new ArrayList<>();
        for (String digit : buffer.split(">")) {
            ballot.add(Integer.valueOf(digit));
        }
        world.members.get(member).ballot = ballot;
        buffer = "";
        return ballots();
    }

    int close() {
        if (!world.electionOpen || candidates().isEmpty()) {
            return STATE;
        }
        act();
        boolean quorum = 100 * ballots() >= world.settings[4] * presentCount();
        world.rounds = new ArrayList<>();
        Integer winner = quorum ? winner() : null;
        world.electionOpen = false;
        for (Member m : world.members) {
            m.nominated = false;
            m.ballot = null;
        }
        if (winner == null) {
            tell(6, NONE);
            return NONE;
        }
        Term t = new Term();
        t.leader = winner;
        t.beginning = world.time;
        t.plannedEnd = world.time + world.settings[0];
        for (Member m : world.members) {
            if (m.present) {
                t.witnesses.add(m.number);
            }
        }
        world.terms.add(t);
        world.leader = winner;
        world.caretaker = null;
        tell(1, winner);
        return winner;
    }

    private int winner() {
        TreeSet<Integer> race = new TreeSet<>();
        for (Member m : candidates()) {
            race.add(m.number);
        }
        while (true) {
            Map<Integer, Integer> votes = new TreeMap<>();
            for (int candidate : race) {
                votes.put(candidate, 0);
            }
            int counting = 0;
            for (Member m : world.members) {
                Integer choice = m.ballot == null ? null
                    : m.ballot.stream().filter(race::contains).findFirst().orElse(null);
                if (choice != null) {
                    votes.merge(choice, 1, Integer::sum);
                    counting++;
                }
            }
            world.rounds.add(votes);
            for (int candidate : race) {
                if (votes.get(candidate) > counting / 2.0 || race.size() == 1) {
                    return candidate;
                }
            }
            Comparator<Integer> order = Comparator.comparingInt((Integer c) -> votes.get(c))
                .thenComparingInt(c -> reputation(c)).thenComparingInt(c -> -led(c))
                .thenComparingInt(c -> -c);
            race.remove(race.stream().min(order).get());
        }
    }

    int rounds() {
        return world.rounds.size();
    }

    int tally(int round, int member) {
        if (round < 0 || round >= world.rounds.size() || noMember(member)) {
            return BAD;
        }
        return world.rounds.get(round).getOrDefault(member, NONE);
    }

    int ballot(int member, int k) {
        if (noMember(member) || k < 0) {
            return BAD;
        }
        if (!world.electionOpen) {
            return STATE;
        }
        List<Integer> ballot = world.members.get(member).ballot;
        return ballot == null || k >= ballot.size() ? NONE : ballot.get(k);
    }

    int office() {
        return world.leader != null ? 2 : world.caretaker != null ? 1 : 0;
    }

    int holder() {
        return world.leader != null ? world.leader : world.caretaker != null ? world.caretaker : NONE;
    }

    int deed(boolean good) {
        if (world.leader == null) {
            return STATE;
        }
        int deeds = good ? currentTerm().deeds + 1 : currentTerm().deeds - 1;
        if (deeds == 21 || deeds == -21) {
            return STATE;
        }
        act();
        currentTerm().deeds = deeds;
        return deeds;
    }

    int sign(int member, boolean on) {
        if (noMember(member)) {
            return BAD;
        }
        Member m = world.members.get(member);
        if (world.leader == null || !m.present || member == world.leader || m.signed == on) {
            return STATE;
        }
        act();
        world.members.get(member).signed = on;
        petition();
        return signatures();
    }

    int grade(int member, int term, int points, int code) {
        if (noMember(member) || noTerm(term) || points < 0 || points > 10) {
            return BAD;
        }
        Term t = world.terms.get(term - 1);
        if (t.over == null || world.time > t.over + 50 || t.leader == member
                || !t.witnesses.contains(member)) {
            return STATE;
        }
        if (Math.floorMod(31 * term + 17 * member + 7 * points + world.members.get(member).key, 997) != code) {
            return FORGED;
        }
        act();
        world.terms.get(term - 1).grades.put(member, points);
        return world.terms.get(term - 1).grades.size();
    }

    int term(int term, int what) {
        if (noTerm(term) || what < 0 || what > 7) {
            return BAD;
        }
        Term t = world.terms.get(term - 1);
        int[] numbers = {t.leader, t.beginning, t.plannedEnd, t.over == null ? NONE : t.over, t.deeds,
            t.recalled ? 1 : 0, t.grades.size(), t.over == null ? NONE : t.score()};
        return numbers[what];
    }

    int points(int member, int term) {
        if (noMember(member) || noTerm(term)) {
            return BAD;
        }
        return world.terms.get(term - 1).grades.getOrDefault(member, NONE);
    }

    int terms() {
        return world.terms.size();
    }

    int member(int member, int what) {
        if (noMember(member) || what < 0 || what > 5) {
            return BAD;
        }
        Member m = world.members.get(member);
        int[] numbers = {reputation(member), led(member), m.present ? 1 : 0, canLead(member) ? 1 : 0,
            m.nominated ? 1 : 0, m.signed ? 1 : 0};
        return numbers[what];
    }

    int keyOf(int member) {
        return noMember(member) ? 0 : world.members.get(member).key;
    }

    int time() {
        return world.time;
    }

    int events() {
        return world.events.size();
    }

    int event(int i, int what) {
        if (i < 0 || what < 0 || what > 2) {
            return BAD;
        }
        if (i >= 20 || i >= world.events.size()) {
            return NONE;
        }
        return world.events.get(world.events.size() - 1 - i)[what];
    }

    int type(int c) {
        if (c < 32 || c > 126) {
            return BAD;
        }
        if (buffer.length() == 40) {
            return FULL;
        }
        buffer += (char) c;
        return buffer.length();
    }

    int clear() {
        int length = buffer.length();
        buffer = "";
        return length;
    }

    int undo() {
        if (history.isEmpty()) {
            return NONE;
        }
        world = history.removeLast();
        return history.size();
    }

    long fingerprint() {
        List<Integer> numbers = new ArrayList<>(List.of(time(), office(), holder(), terms(), events()));
        for (int t = 1; t <= terms(); t++) {
            for (int what = 0; what < 8; what++) {
                numbers.add(term(t, what));
            }
        }
        numbers.add(world.members.size());
        for (int m = 0; m < world.members.size(); m++) {
            for (int what = 0; what < 6; what++) {
                numbers.add(member(m, what));
            }
        }
        long mark = 83;
        for (int number : numbers) {
            mark = mark * 31 + number;
        }
        return mark;
    }
}
