import java.util.Random;

/** Runs of up to 512 calls by chance (with written seeds), each answer compared with that of NaiveClauses. */
public final class RandomRunsTest {
    private static final int RUNS = 600;
    private static final int CALLS = 512;
    private static final String[] CHANGES = {"tell", "step", "run", "play"};

    private final Due due = new Due();
    private final int[] limits = new int[CHANGES.length];
    private int typeLimits = 0;
    private int refutations = 0;
    private Random random;
    private OrderedClauses x;
    private NaiveClauses naive;
    private String where;
    private int atoms;
    private int fewest;
    private int most;

    public static void main(String[] args) {
        RandomRunsTest test = new RandomRunsTest();
        for (int seed = 0; seed < RUNS && test.due.isRight(); seed++) {
            test.oneRun(seed);
        }
        for (int i = 0; i < CHANGES.length; i++) {
            test.due.holds("runs that meet LIMIT_REACHED by " + CHANGES[i], test.limits[i] > 20);
        }
        test.due.holds("runs that meet LIMIT_REACHED by type", test.typeLimits > 20);
        test.due.holds("runs with a refutation", test.refutations > 100);
        System.out.println("LIMIT_REACHED by tell, step, run, play: " + java.util.Arrays.toString(test.limits));
        test.due.close("RandomRunsTest");
    }

    private void oneRun(int seed) {
        random = new Random(seed);
        x = new OrderedClauses();
        naive = new NaiveClauses();
        atoms = 2 + random.nextInt(5);
        fewest = 1 + random.nextInt(3);
        most = fewest + random.nextInt(3);
        int changing = 20 + random.nextInt(60);
        int texts = random.nextInt(30);
        if (seed % 4 == 0) {
            // a store that fills soon, and texts that are told to it
            atoms = 6;
            fewest = 3;
            most = 4;
            changing = 30;
            texts = 50;
        }
        for (int call = 0; call < CALLS; call++) {
            where = "run " + seed + ", call " + call + ": ";
            int kind = random.nextInt(100);
            if (kind < changing) {
                change();
            } else if (kind < changing + texts) {
                text();
            } else {
                query();
            }
            if (call % 128 == 127) {
                everything();
            }
        }
        refutations += naive.refutation() >= 0 ? 1 : 0;
    }

    private int near(int least, int greatest) {
        return random.nextInt(12) == 0
            ? (random.nextBoolean() ? least - 1 - random.nextInt(3) : greatest + 1 + random.nextInt(3))
            : least + random.nextInt(greatest - least + 1);
    }

    private int literals() {
        switch (random.nextInt(60)) {
            case 0: return near(0, 4095);
            case 1: return random.nextBoolean() ? Integer.MIN_VALUE : Integer.MAX_VALUE;
            case 2: return random.nextInt(8) == 0 ? 0 : 1 << random.nextInt(12);
            default:
        }
        int bits = 0;
        int size = fewest + random.nextInt(most - fewest + 1);
        for (int i = 0; i < size; i++) {
            bits |= 1 << (2 * random.nextInt(atoms) + random.nextInt(2));
        }
        return bits;
    }

    private void change() {
        int kind = random.nextInt(100);
        if (kind < 55) {
            int literals = literals();
            seen(0, "tell(" + literals + ")", x.tell(literals), naive.tell(literals));
        } else if (kind < 75) {
            seen(1, "step()", x.step(), naive.step());
        } else if (kind < 82) {
            int steps = random.nextInt(3) == 0 ? near(1, 40) : 1 + random.nextInt(6);
            seen(2, "run(" + steps + ")", x.run(steps), naive.run(steps));
        } else if (kind < 88) {
            int atom = near(0, 5);
            int rank = near(0, 5);
            due.same(where + "rank(" + atom + ", " + rank + ")", x.rank(atom, rank), naive.rank(atom, rank));
        } else if (kind < 92) {
            int value = near(1, 9);
            due.same(where + "set(" + value + ")", x.set(value), naive.set(value));
        } else if (kind < 93) {
            due.same(where + "empty()", x.empty(), naive.empty());
            otherClausesAndUndo();
        } else {
            due.same(where + "undo()", x.undo(), naive.undo());
        }
    }

    private void otherClausesAndUndo() {
        int changes = random.nextInt(4);
        for (int i = 0; i < changes; i++) {
            int literals = literals();
            seen(0, "tell(" + literals + ")", x.tell(literals), naive.tell(literals));
        }
        while (random.nextInt(4) != 0) {
            due.same(where + "undo()", x.undo(), naive.undo());
        }
        everything();
    }

    private void seen(int change, String call, int got, int want) {
        due.same(where + call, got, want);
        limits[change] += want == NaiveClauses.LIMIT ? 1 : 0;
    }

    private void text() {
        int kind = random.nextInt(100);
        if (kind < 30) {
            seen(3, "play()", x.play(), naive.play());
        } else if (kind < 40) {
            due.same(where + "clearText()", x.clearText(), naive.clearText());
        } else if (kind < 44) {
            type(near(32, 126));
        } else {
            clauseAsText();
        }
        fault();
    }

    private void clauseAsText() {
        if (naive.fault(0) >= 0 && random.nextInt(4) != 0) {
            due.same(where + "clearText()", x.clearText(), naive.clearText());
        }
        int size = random.nextInt(20) == 0 ? 0 : fewest + random.nextInt(most - fewest + 1);
        for (int i = 0; i < size; i++) {
            if (random.nextBoolean()) {
                type('-');
            }
            type('a' + random.nextInt(atoms));
        }
        if (random.nextInt(20) != 0) {
            type(';');
        }
    }

    private void type(int character) {
        int want = naive.type(character);
        due.same(where + "type(" + character + ")", x.type(character), want);
        typeLimits += want == NaiveClauses.LIMIT ? 1 : 0;
    }

    private void fault() {
        for (int what = -1; what <= 2; what++) {
            due.same(where + "fault(" + what + ")", x.fault(what), naive.fault(what));
        }
    }

    private void query() {
        int clause = near(0, Math.max(0, naive.count(0) - 1));
        int what = near(0, 8);
        int bits = near(0, 4095);
        int values = near(0, 63);
        int count = near(0, 15);
        due.same(where + "clauseOf(" + clause + ", " + what + ")", x.clauseOf(clause, what), naive.clauseOf(clause, what));
        due.same(where + "tree(" + clause + ")", x.tree(clause), naive.tree(clause));
        due.same(where + "widest(" + clause + ")", x.widest(clause), naive.widest(clause));
        due.same(where + "refutation()", x.refutation(), naive.refutation());
        due.same(where + "models()", x.models(), naive.models());
        due.same(where + "model(" + values + ")", x.model(values), naive.model(values));
        due.same(where + "broken(" + values + ")", x.broken(values), naive.broken(values));
        due.same(where + "core()", x.core(), naive.core());
        due.same(where + "follows(" + bits + ")", x.follows(bits), naive.follows(bits));
        due.same(where + "share(" + bits + ")", x.share(bits), naive.share(bits));
        due.same(where + "count(" + count + ")", x.count(count), naive.count(count));
    }

    private void everything() {
        for (int clause = -1; clause <= naive.count(0); clause++) {
            for (int what = -1; what <= 9; what++) {
                due.same(where + "clauseOf(" + clause + ", " + what + ")",
                    x.clauseOf(clause, what), naive.clauseOf(clause, what));
            }
            due.same(where + "tree(" + clause + ")", x.tree(clause), naive.tree(clause));
            due.same(where + "widest(" + clause + ")", x.widest(clause), naive.widest(clause));
        }
        for (int count = -1; count <= 16; count++) {
            due.same(where + "count(" + count + ")", x.count(count), naive.count(count));
        }
        for (int values = -1; values <= 64; values++) {
            due.same(where + "broken(" + values + ")", x.broken(values), naive.broken(values));
            due.same(where + "model(" + values + ")", x.model(values), naive.model(values));
        }
        due.same(where + "core()", x.core(), naive.core());
        fault();
    }
}
