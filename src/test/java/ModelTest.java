import java.util.ArrayList;
import java.util.Arrays;
import java.util.List;
import java.util.Random;

/** All promises: long random runs of calls, each answer compared with that of PlainModel. */
public final class ModelTest {
    private static final int RUNS = 1500;
    private static final int CALLS = 512;
    private static final int[] EXTREMES = {Integer.MIN_VALUE, -1000, -2, -1, 10, 11, 20, 41, 997,
        1001, Integer.MAX_VALUE};

    private final Checks checks;
    private final Random random;
    private final TermOffice office = new TermOffice();
    private final PlainModel model = new PlainModel();
    private final List<String> calls = new ArrayList<>();
    /** How often, of 100, an argument is a wild one. */
    private final int wildness;
    /** In a hasty run elections are short, and terms follow one another. */
    private final boolean hasty;
    private final int[] reached;

    private ModelTest(Checks checks, int seed, int[] reached) {
        this.checks = checks;
        this.random = new Random(seed);
        this.wildness = seed % 4 == 0 ? 10 : 1;
        this.hasty = seed % 5 == 0;
        this.reached = reached;
    }

    public static void main(String[] args) {
        Checks checks = new Checks();
        int[] reached = new int[9];
        for (int seed = 0; seed < RUNS && checks.wrongSoFar() == 0; seed++) {
            new ModelTest(checks, seed, reached).run();
        }
        checks.holds("a run reached 40 terms", reached[0] == 40);
        checks.holds("a run had many rounds", reached[8] >= 8);
        for (int kind = 1; kind <= 7; kind++) {
            checks.holds("many events of the kind " + kind, reached[kind] > 100);
        }
        System.out.println("most terms, events of the kinds 1 to 7, most rounds: " + Arrays.toString(reached));
        checks.end();
    }

    private void run() {
        prepare();
        while (calls.size() < CALLS && checks.wrongSoFar() == 0) {
            int before = model.events();
            step(random.nextInt(100));
            compareAll();
            if (model.events() == before + 1) {
                reached[model.event(0, 1)]++;
            } else if (model.events() == before + 2) {
                reached[model.event(0, 1)]++;
                reached[model.event(1, 1)]++;
            }
            reached[0] = Math.max(reached[0], model.terms());
            reached[8] = Math.max(reached[8], model.rounds());
        }
        if (checks.wrongSoFar() != 0) {
            System.out.println("the calls: " + String.join(" ", calls));
        }
    }

    private void prepare() {
        int members = random.nextInt(4) == 0 ? 1 + random.nextInt(3) : random.nextInt(11);
        for (int m = 0; m < members; m++) {
            join(random.nextInt(997));
        }
        if (random.nextInt(3) > 0) {
            set(0, 10 + random.nextInt(30));
            set(1, 1 + random.nextInt(9));
            set(2, 1 + random.nextInt(9));
            set(4, random.nextInt(40));
        }
        if (hasty || random.nextInt(3) == 0) {
            set(0, 10);
            set(1, 9);
            set(2, 9);
            set(4, 0);
        }
    }

    private void due(String call, long got, long want) {
        calls.add(call + "=" + got);
        checks.due(call, got, want);
    }

    private int wild(int usual) {
        return random.nextInt(100) < wildness ? EXTREMES[random.nextInt(EXTREMES.length)] : usual;
    }

    private int someMember() {
        return wild(random.nextInt(10));
    }

    private void step(int choice) {
        if (hasty && random.nextInt(3) == 0) {
            hurry();
        } else if (choice < 3) {
            set(wild(random.nextInt(6)), wild(random.nextInt(random.nextBoolean() ? 12 : 120)));
        } else if (choice < 4) {
            join(wild(random.nextInt(997)));
        } else if (choice < 12) {
            setPresent(random.nextInt(4) == 0 ? model.holder() : someMember(), random.nextInt(3) > 0);
        } else if (choice < 19) {
            pass(wild(1 + random.nextInt(random.nextInt(6) == 0 ? 120 : 12)));
        } else if (choice < 25) {
            due("open()", office.open(), model.open());
        } else if (choice < 42) {
            nominate(someMember());
        } else if (choice < 62) {
            vote();
        } else if (choice < 69) {
            due("close()", office.close(), model.close());
        } else if (choice < 74) {
            boolean good = random.nextBoolean();
            due("deed(" + good + ")", office.deed(good), model.deed(good));
        } else if (choice < 80) {
            sign(someMember(), random.nextInt(4) > 0);
        } else if (choice < 92) {
            grade();
        } else if (choice < 95) {
            type(wild(32 + random.nextInt(95)));
        } else if (choice < 96) {
            due("clear()", office.clear(), model.clear());
        } else {
            due("undo()", office.undo(), model.undo());
        }
    }

    private void hurry() {
        if (model.office() == 2) {
            pass(1 + random.nextInt(20));
            return;
        }
        due("open()", office.open(), model.open());
        nominate(random.nextInt(10));
        nominate(random.nextInt(10));
        due("close()", office.close(), model.close());
    }

    private void set(int setting, int value) {
        due("set(" + setting + "," + value + ")", office.set(setting, value), model.set(setting, value));
    }

    private void join(int key) {
        due("join(" + key + ")", office.join(key), model.join(key));
    }

    private void setPresent(int member, boolean present) {
        due("setPresent(" + member + "," + present + ")", office.setPresent(member, present),
            model.setPresent(member, present));
    }

    private void pass(int units) {
        due("pass(" + units + ")", office.pass(units), model.pass(units));
    }

    private void nominate(int member) {
        due("nominate(" + member + ")", office.nominate(member), model.nominate(member));
    }

    private void sign(int member, boolean on) {
        due("sign(" + member + "," + on + ")", office.sign(member, on), model.sign(member, on));
    }

    private void type(int c) {
        due("type(" + c + ")", office.type(c), model.type(c));
    }

    private void grade() {
        int member = someMember();
        int term = wild(Math.max(0, model.terms() - random.nextInt(4)));
        int points = wild(random.nextInt(11));
        int code = (31 * term + 17 * member + 7 * points + model.keyOf(member)) % 997;
        if (random.nextInt(20) == 0) {
            code += random.nextBoolean() ? 1 : 997;
        }
        due("grade(" + member + "," + term + "," + points + "," + code + ")",
            office.grade(member, term, points, code), model.grade(member, term, points, code));
    }

    /** Mostly a ballot of candidates, now and then with a slip in it. */
    private void vote() {
        if (random.nextInt(10) > 0) {
            due("clear()", office.clear(), model.clear());
        }
        List<Integer> left = new ArrayList<>();
        for (int m = 0; m < 10; m++) {
            if (model.member(m, 4) == 1 || random.nextInt(100) < wildness) {
                left.add(m);
            }
        }
        int length = Math.min(left.size(), 1 + random.nextInt(4));
        for (int i = 0; i < length; i++) {
            if (i > 0) {
                type(random.nextInt(100) < wildness ? ' ' : '>');
            }
            int at = random.nextInt(left.size());
            type('0' + (random.nextInt(100) < wildness ? left.get(at) : left.remove(at)));
        }
        int voter = someMember();
        due("cast(" + voter + ")", office.cast(voter), model.cast(voter));
    }

    /** Reads all that can be read, outside the ranges too. */
    private void compareAll() {
        checks.due("time()", office.time(), model.time());
        checks.due("office()", office.office(), model.office());
        checks.due("holder()", office.holder(), model.holder());
        checks.due("terms()", office.terms(), model.terms());
        checks.due("events()", office.events(), model.events());
        checks.due("rounds()", office.rounds(), model.rounds());
        checks.due("fingerprint()", office.fingerprint(), model.fingerprint());
        for (int m = -1; m <= 10; m++) {
            for (int k = -1; k <= 10; k++) {
                checks.due("ballot(" + m + "," + k + ")", office.ballot(m, k), model.ballot(m, k));
                checks.due("tally(" + k + "," + m + ")", office.tally(k, m), model.tally(k, m));
            }
            for (int what = -1; what <= 6; what++) {
                checks.due("member(" + m + "," + what + ")", office.member(m, what), model.member(m, what));
            }
            for (int term = Math.max(-1, model.terms() - 5); term <= model.terms() + 1; term++) {
                checks.due("points(" + m + "," + term + ")", office.points(m, term), model.points(m, term));
            }
        }
        for (int what = -1; what <= 8; what++) {
            checks.due("term(.," + what + ")", office.term(model.terms(), what), model.term(model.terms(), what));
        }
        for (int i = -1; i <= 21; i++) {
            for (int what = -1; what <= 3; what++) {
                checks.due("event(" + i + "," + what + ")", office.event(i, what), model.event(i, what));
            }
        }
    }
}
