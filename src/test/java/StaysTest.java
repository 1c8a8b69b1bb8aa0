import java.util.List;

/**
 * What a call leaves as it is: questions change nothing, type and clearText the text alone, and a change nothing but
 * what its promise says.
 */
public final class StaysTest extends Bench {
    private static final List<Whole.Maker> STATES = List.of(
        OrderedClauses::new, Bench::bitOfEverything, Bench::fullStoreAndText, Bench::fortiethIsEmpty, Bench::refuted,
        StaysTest::allDone, () -> typed(bitOfEverything(), "a;b?;"));
    private static final List<Whole.Maker> WITHOUT_TEXT = List.of(
        OrderedClauses::new, Bench::fortiethIsEmpty, Bench::refuted, () -> undone(bitOfEverything()));
    /** Stands for the fault's position behind the numbers of count. */
    private static final int FAULT = 16;

    public static void main(String[] args) {
        questionsAboutClauses();
        questionsAboutRefutations();
        questionsAboutValues();
        questionsAboutSharesAndCounts();
        questionsAboutTexts();
        textCalls();
        tells();
        ranks();
        settings();
        steps();
        empties();
        plays();
        undo();
        DUE.close("StaysTest");
    }

    private static OrderedClauses allDone() {
        OrderedClauses x = typed(told("ab cd a-c"), "ef;-a;");
        DUE.same("run", x.run(40), 3);
        return x;
    }

    private static OrderedClauses undone(OrderedClauses x) {
        x.undo();
        x.clearText();
        return x;
    }

    // ---- questions

    private static void asks(String question, Whole.Call call) {
        for (Whole.Maker maker : STATES) {
            changesNothing(question, maker, call);
        }
    }

    private static void changesNothing(String name, Whole.Maker maker, Whole.Call call) {
        DUE.holds("nothing is changed by " + name, Whole.of(maker).equals(Whole.of(() -> {
            OrderedClauses x = maker.make();
            call.on(x);
            return x;
        })));
    }

    private static void questionsAboutClauses() {
        DUE.about("Returns something of a clause.");
        for (int what = 0; what <= 8; what++) {
            final int asked = what;
            asks("clauseOf " + what, x -> x.clauseOf(0, asked));
        }
    }

    private static void questionsAboutRefutations() {
        DUE.about("Returns the clauses of the tree of a clause");
        asks("tree", x -> x.tree(x.count(0) - 1));
        DUE.about("Tells how wide the tree of a clause is");
        asks("widest", x -> x.widest(x.count(0) - 1));
        DUE.about("Returns the clause of the store that is empty.");
        asks("refutation", OrderedClauses::refutation);
    }

    private static void questionsAboutValues() {
        DUE.about("Counts the values of all atoms");
        asks("models", OrderedClauses::models);
        DUE.about("Returns the values of all atoms that fulfil all clauses that were told.");
        asks("model", x -> x.model(0));
        DUE.about("Tells which clauses of the store that are not dropped are not fulfilled by values.");
        asks("broken", x -> x.broken(0));
        DUE.about("Finds clauses that were told, which cannot be fulfilled together");
        asks("core", OrderedClauses::core);
        DUE.about("Tells whether a clause follows from those that were told");
        for (int clause : new int[] {0, bits("ab"), bits("abcd"), bits("f"), bits("a-a"), 4095}) {
            asks("follows of " + clause, x -> x.follows(clause));
        }
    }

    private static void questionsAboutSharesAndCounts() {
        DUE.about("Returns the bits of the share of all values that fulfil a clause");
        for (int clause : new int[] {0, bits("ab"), bits("a-a"), 4095}) {
            asks("share of " + clause, x -> x.share(clause));
        }
        DUE.about("Returns a number.");
        for (int what = 0; what <= 15; what++) {
            final int asked = what;
            asks("count " + what, x -> x.count(asked));
        }
    }

    private static void questionsAboutTexts() {
        DUE.about("Tells about the fault of the text.");
        asks("fault 0", x -> x.fault(0));
        asks("fault 1", x -> x.fault(1));
    }

    // ---- texts

    private static void textCalls() {
        DUE.about("Appends a character to the text.");
        for (Whole.Maker maker : STATES) {
            leaves("type", maker, x -> x.type('a'), 9, FAULT);
            statusesStay("type", maker, x -> x.type('a'));
        }
        DUE.about("Empties the text.");
        for (Whole.Maker maker : STATES) {
            leaves("clearText", maker, OrderedClauses::clearText, 9, FAULT);
            statusesStay("clearText", maker, OrderedClauses::clearText);
        }
        for (Whole.Maker maker : WITHOUT_TEXT) {
            changesNothing("clearText without a text", maker, OrderedClauses::clearText);
            changesNothing("type and clearText", maker, x -> x.type('?') + x.clearText());
        }
    }

    // ---- changes

    /** Asks all counts and the fault but for the named ones. */
    private static void leaves(String name, Whole.Maker maker, Whole.Call change, int... mayChange) {
        OrderedClauses before = maker.make();
        OrderedClauses behind = maker.make();
        change.on(behind);
        for (int what = 0; what <= FAULT; what++) {
            boolean may = false;
            for (int changing : mayChange) {
                may |= changing == what;
            }
            if (!may) {
                DUE.same("count " + what + " behind " + name, number(behind, what), number(before, what));
            }
        }
    }

    private static int number(OrderedClauses x, int what) {
        return what == FAULT ? x.fault(0) : x.count(what);
    }

    /** All clauses that there were are open, done or dropped as before. */
    private static void statusesStay(String name, Whole.Maker maker, Whole.Call change) {
        OrderedClauses before = maker.make();
        OrderedClauses behind = maker.make();
        change.on(behind);
        int clauses = before.count(0);
        for (int clause = 0; clause < clauses; clause++) {
            DUE.same("status of " + clause + " behind " + name, behind.clauseOf(clause, 1), before.clauseOf(clause, 1));
        }
    }

    private static void tells() {
        DUE.about("Tells a clause.");
        for (Whole.Maker maker : STATES) {
            leaves("tell of one that comes", maker, x -> x.tell(bits("-b-d-f")), 0, 1, 7, 8);
            statusesStay("tell of one that drops none", maker, x -> x.tell(bits("-b-d-e-f")));
            leaves("tell of what holds always", maker, x -> x.tell(bits("a-a")), 6, 8);
            statusesStay("tell of what holds always", maker, x -> x.tell(bits("a-a")));
            leaves("tell of one that may drop", maker, x -> x.tell(bits("a")), 0, 1, 2, 3, 7, 8);
        }
        Whole.Maker done = StaysTest::allDone;
        leaves("tell of the same", done, x -> x.tell(bits("ab")), 7, 8);
        statusesStay("tell of the same", done, x -> x.tell(bits("ab")));
    }

    private static void ranks() {
        DUE.about("Gives an atom a rank");
        for (Whole.Maker maker : STATES) {
            leaves("rank 4 to b", maker, x -> x.rank(1, 4), 1, 2, 8, 11, 14);
            leaves("its own rank to b", maker, x -> x.rank(1, x.count(11)), 1, 2, 8);
        }
    }

    private static void settings() {
        DUE.about("Sets the setting.");
        for (Whole.Maker maker : STATES) {
            leaves("set", maker, x -> x.set(9), 5, 8);
            statusesStay("set", maker, x -> x.set(9));
        }
    }

    private static void steps() {
        DUE.about("Does a step.");
        for (Whole.Maker maker : STATES) {
            leaves("step", maker, OrderedClauses::step, 0, 1, 2, 3, 4, 6, 7, 8);
            leaves("run", maker, x -> x.run(5), 0, 1, 2, 3, 4, 6, 7, 8);
        }
        DUE.about("Does steps, as long as there are any.");
        Whole.Maker done = StaysTest::allDone;
        leaves("run without steps", done, x -> x.run(40), 8);
        statusesStay("run without steps", done, x -> x.run(40));
    }

    private static void empties() {
        DUE.about("Empties the store; steps are counted from 0 again");
        for (Whole.Maker maker : STATES) {
            leaves("empty", maker, OrderedClauses::empty, 0, 1, 2, 3, 4, 8);
        }
    }

    private static void plays() {
        DUE.about("Tells all clauses of the text, one after another; it stays.");
        for (Whole.Maker maker : STATES) {
            leaves("play", maker, OrderedClauses::play, 0, 1, 2, 3, 6, 7, 8);
        }
        Whole.Maker done = () -> typed(allDone(), "ef;b-b;ab;ef;-e-f;");
        leaves("play of some that drop none", done, OrderedClauses::play, 0, 1, 6, 7, 8);
        statusesStay("play of some that drop none", done, OrderedClauses::play);
    }

    private static void undo() {
        DUE.about("each change records everything before it but the text");
        for (Whole.Maker maker : STATES) {
            leaves("undo", maker, x -> x.set(9) + x.undo(), 8);
            statusesStay("undo", maker, x -> x.set(9) + x.undo());
        }
    }
}
