import java.util.ArrayList;
import java.util.Arrays;
import java.util.List;
import java.util.Random;

/**
 * Runs of 512 calls by chance (with written seeds), each answer compared with that of NaiveClauses.
 *
 * An object is promised 512 calls alone; so what would take more of them is asked of copies, which are new objects on
 * which all calls of the run that may change something are made again.
 */
public final class RandomRunsTest {
    private static final int RUNS = 1200;
    private static final int CALLS = 512;
    /** So that a copy has calls left for questions. */
    private static final int MOST_CHANGES = 400;
    private static final String[] CHANGES = {"tell", "step", "run", "play", "type"};

    private interface Call {
        long on(OrderedClauses x);
    }

    private interface NaiveCall {
        long on(NaiveClauses naive);
    }

    private final Due due = new Due();
    private final int[] limits = new int[CHANGES.length];
    private final List<Call> changes = new ArrayList<>();
    private int refutations = 0;
    private int calls;
    private int left;
    private Random random;
    private OrderedClauses x;
    private OrderedClauses copy;
    private NaiveClauses naive;
    private String where;
    private int atoms;
    private int fewest;
    private int most;

    public static void main(String[] args) {
        RandomRunsTest test = new RandomRunsTest();
        for (int seed = 0; seed < RUNS && test.due.isRight(); seed++) {
            test.oneRun(seed);
        }
        for (int i = 0; i < CHANGES.length; i++) {
            test.due.holds("runs that meet LIMIT_REACHED by " + CHANGES[i], test.limits[i] > 20);
        }
        test.due.holds("runs with a refutation", test.refutations > 100);
        System.out.println("LIMIT_REACHED by tell, step, run, play, type: " + Arrays.toString(test.limits));
        test.due.close("RandomRunsTest");
    }

    private void oneRun(int seed) {
        random = new Random(seed);
        x = new OrderedClauses();
        naive = new NaiveClauses();
        changes.clear();
        calls = 0;
        atoms = 2 + random.nextInt(5);
        fewest = 1 + random.nextInt(3);
        most = fewest + random.nextInt(3);
        int changing = 20 + random.nextInt(60);
        int texts = random.nextInt(30);
        if (seed % 4 == 0) {
            // a store that fills soon, and texts that are told to it
            atoms = 6;
            fewest = 3;
            most = 4;
            changing = 40;
            texts = 50;
        }
        int quarter = 1;
        while (calls < CALLS && changes.size() < MOST_CHANGES) {
            where = "run " + seed + ", call " + calls + ": ";
            oneCall(changing, texts);
            if (calls >= quarter * CALLS / 4) {
                quarter++;
                everything();
            }
        }
        everything();
        refutations += naive.refutation() >= 0 ? 1 : 0;
    }

    private void oneCall(int changing, int texts) {
        int kind = random.nextInt(100);
        if (kind < changing) {
            change();
        } else if (kind < changing + texts) {
            text();
        } else {
            query();
        }
    }

    // ---- the calls, each made of both

    private long changed(String name, Call call, NaiveCall naiveCall) {
        if (calls >= CALLS || changes.size() >= MOST_CHANGES) {
            return 0;
        }
        calls++;
        changes.add(call);
        long want = naiveCall.on(naive);
        due.same(where + name, call.on(x), want);
        return want;
    }

    private void mayMeetLimit(int change, String arguments, Call call, NaiveCall naiveCall) {
        long want = changed(CHANGES[change] + arguments, call, naiveCall);
        limits[change] += want == NaiveClauses.LIMIT ? 1 : 0;
    }

    private void asked(String name, Call call, NaiveCall naiveCall) {
        if (calls < CALLS) {
            calls++;
            due.same(where + name, call.on(x), naiveCall.on(naive));
        }
    }

    private void askedOfCopy(String name, Call call, NaiveCall naiveCall) {
        if (left == 0) {
            copy = new OrderedClauses();
            for (Call change : changes) {
                change.on(copy);
            }
            left = CALLS - changes.size();
        }
        left--;
        due.same(where + name + " of a copy", call.on(copy), naiveCall.on(naive));
    }

    // ---- what is called

    private int near(int least, int greatest) {
        return random.nextInt(12) == 0
            ? (random.nextBoolean() ? least - 1 - random.nextInt(3) : greatest + 1 + random.nextInt(3))
            : least + random.nextInt(greatest - least + 1);
    }

    private int literals() {
        switch (random.nextInt(60)) {
            case 0: return near(0, 4095);
            case 1: return random.nextBoolean() ? Integer.MIN_VALUE : Integer.MAX_VALUE;
            case 2: return random.nextInt(8) == 0 ? 0 : 1 << random.nextInt(12);
            default:
        }
        int bits = 0;
        int size = fewest + random.nextInt(most - fewest + 1);
        for (int i = 0; i < size; i++) {
            bits |= 1 << (2 * random.nextInt(atoms) + random.nextInt(2));
        }
        return bits;
    }

    private void change() {
        int kind = random.nextInt(100);
        if (kind < 55) {
            tell();
        } else if (kind < 75) {
            mayMeetLimit(1, "()", OrderedClauses::step, NaiveClauses::step);
        } else if (kind < 82) {
            int steps = random.nextInt(3) == 0 ? near(1, 40) : 1 + random.nextInt(6);
            mayMeetLimit(2, "(" + steps + ")", y -> y.run(steps), n -> n.run(steps));
        } else if (kind < 88) {
            int atom = near(0, 5);
            int rank = near(0, 5);
            changed("rank(" + atom + ", " + rank + ")", y -> y.rank(atom, rank), n -> n.rank(atom, rank));
        } else if (kind < 92) {
            int value = near(1, 9);
            changed("set(" + value + ")", y -> y.set(value), n -> n.set(value));
        } else if (kind < 93) {
            changed("empty()", OrderedClauses::empty, NaiveClauses::empty);
            otherClausesAndUndo();
        } else {
            undo();
        }
    }

    private void tell() {
        int literals = literals();
        mayMeetLimit(0, "(" + literals + ")", y -> y.tell(literals), n -> n.tell(literals));
    }

    private void undo() {
        changed("undo()", OrderedClauses::undo, NaiveClauses::undo);
    }

    private void otherClausesAndUndo() {
        int others = random.nextInt(4);
        for (int i = 0; i < others; i++) {
            tell();
        }
        while (random.nextInt(4) != 0) {
            undo();
        }
        everything();
    }

    private void text() {
        int kind = random.nextInt(100);
        if (kind < 30) {
            mayMeetLimit(3, "()", OrderedClauses::play, NaiveClauses::play);
        } else if (kind < 40) {
            clearText();
        } else if (kind < 44) {
            type(near(32, 126));
        } else {
            clauseAsText();
        }
        int what = near(0, 1);
        asked("fault(" + what + ")", y -> y.fault(what), n -> n.fault(what));
    }

    private void clearText() {
        changed("clearText()", OrderedClauses::clearText, NaiveClauses::clearText);
    }

    private void clauseAsText() {
        if (naive.fault(0) >= 0 && random.nextInt(4) != 0) {
            clearText();
        }
        int size = random.nextInt(20) == 0 ? 0 : fewest + random.nextInt(most - fewest + 1);
        for (int i = 0; i < size; i++) {
            if (random.nextBoolean()) {
                type('-');
            }
            type('a' + random.nextInt(atoms));
        }
        if (random.nextInt(20) != 0) {
            type(';');
        }
    }

    private void type(int character) {
        mayMeetLimit(4, "(" + character + ")", y -> y.type(character), n -> n.type(character));
    }

    private void query() {
        int clause = near(0, Math.max(0, naive.count(0) - 1));
        int what = near(0, 8);
        int bits = near(0, 4095);
        int values = near(0, 63);
        int count = near(0, 15);
        switch (random.nextInt(11)) {
            case 0:
                asked("clauseOf(" + clause + ", " + what + ")", y -> y.clauseOf(clause, what), n -> n.clauseOf(clause, what));
                break;
            case 1: asked("tree(" + clause + ")", y -> y.tree(clause), n -> n.tree(clause)); break;
            case 2: asked("widest(" + clause + ")", y -> y.widest(clause), n -> n.widest(clause)); break;
            case 3: asked("refutation()", OrderedClauses::refutation, NaiveClauses::refutation); break;
            case 4: asked("models()", OrderedClauses::models, NaiveClauses::models); break;
            case 5: asked("model(" + values + ")", y -> y.model(values), n -> n.model(values)); break;
            case 6: asked("broken(" + values + ")", y -> y.broken(values), n -> n.broken(values)); break;
            case 7: asked("core()", OrderedClauses::core, NaiveClauses::core); break;
            case 8: asked("follows(" + bits + ")", y -> y.follows(bits), n -> n.follows(bits)); break;
            case 9: asked("share(" + bits + ")", y -> y.share(bits), n -> n.share(bits)); break;
            default: asked("count(" + count + ")", y -> y.count(count), n -> n.count(count)); break;
        }
    }

    private void everything() {
        left = 0;
        for (int k = -1; k <= naive.count(0); k++) {
            int clause = k;
            for (int w = -1; w <= 9; w++) {
                int what = w;
                askedOfCopy("clauseOf(" + clause + ", " + what + ")",
                    y -> y.clauseOf(clause, what), n -> n.clauseOf(clause, what));
            }
            askedOfCopy("tree(" + clause + ")", y -> y.tree(clause), n -> n.tree(clause));
            askedOfCopy("widest(" + clause + ")", y -> y.widest(clause), n -> n.widest(clause));
        }
        for (int k = -1; k <= 16; k++) {
            int count = k;
            askedOfCopy("count(" + count + ")", y -> y.count(count), n -> n.count(count));
        }
        for (int k = -1; k <= 64; k++) {
            int values = k;
            askedOfCopy("broken(" + values + ")", y -> y.broken(values), n -> n.broken(values));
            askedOfCopy("model(" + values + ")", y -> y.model(values), n -> n.model(values));
        }
        for (int k = -1; k <= 2; k++) {
            int what = k;
            askedOfCopy("fault(" + what + ")", y -> y.fault(what), n -> n.fault(what));
        }
        for (int i = 0; i < 8; i++) {
            int bits = near(0, 4095);
            askedOfCopy("follows(" + bits + ")", y -> y.follows(bits), n -> n.follows(bits));
            askedOfCopy("share(" + bits + ")", y -> y.share(bits), n -> n.share(bits));
        }
        askedOfCopy("refutation()", OrderedClauses::refutation, NaiveClauses::refutation);
        askedOfCopy("models()", OrderedClauses::models, NaiveClauses::models);
        askedOfCopy("core()", OrderedClauses::core, NaiveClauses::core);
    }
}
