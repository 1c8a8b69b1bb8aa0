import java.util.ArrayList;
import java.util.List;

/**
 * All that objects in one state answer, and what they answer behind undo and play.
 *
 * An object is promised 512 calls alone, so a new one is made for every few questions.
 */
final class Whole {
    private static final int QUESTIONS_AN_OBJECT = 150;
    private static final int STATES = 4;
    private static final List<Call> QUESTIONS = questions();

    /** Makes an object in the state that a test needs, as often as it is asked for one. */
    interface Maker {
        OrderedClauses make();
    }

    interface Call {
        long on(OrderedClauses x);
    }

    private Whole() {
    }

    static List<Long> of(Maker maker) {
        List<Long> answers = new ArrayList<>();
        for (int undone = 0; undone <= STATES; undone++) {
            final int times = undone;
            ask(() -> undoneTimes(maker.make(), times), answers);
        }
        ask(() -> played(maker.make(), "", answers), answers);
        ask(() -> played(maker.make(), ";", answers), answers);
        OrderedClauses x = maker.make();
        answers.add((long) x.run(40));
        answers.add((long) x.undo());
        answers.add((long) x.step());
        answers.add((long) x.clearText());
        return answers;
    }

    private static void ask(Maker maker, List<Long> answers) {
        OrderedClauses x = maker.make();
        for (int i = 0; i < QUESTIONS.size(); i++) {
            if (i % QUESTIONS_AN_OBJECT == 0) {
                x = maker.make();
            }
            answers.add(QUESTIONS.get(i).on(x));
        }
    }

    private static OrderedClauses undoneTimes(OrderedClauses x, int times) {
        for (int i = 0; i < times; i++) {
            x.undo();
        }
        return x;
    }

    /** An emptied store is told the text, so that the clauses tell which characters it has. */
    private static OrderedClauses played(OrderedClauses x, String more, List<Long> answers) {
        x.empty();
        for (int i = 0; i < more.length(); i++) {
            answers.add((long) x.type(more.charAt(i)));
        }
        answers.add((long) x.play());
        return x;
    }

    private static List<Call> questions() {
        List<Call> all = new ArrayList<>();
        all.add(OrderedClauses::refutation);
        all.add(OrderedClauses::models);
        all.add(OrderedClauses::core);
        all.add(x -> x.fault(0));
        all.add(x -> x.fault(1));
        for (int k = 0; k < 16; k++) {
            final int what = k;
            all.add(x -> x.count(what));
        }
        for (int k = 0; k < 40; k++) {
            final int clause = k;
            all.add(x -> x.tree(clause));
            all.add(x -> x.widest(clause));
            for (int w = 0; w <= 8; w++) {
                final int what = w;
                all.add(x -> x.clauseOf(clause, what));
            }
        }
        for (int k = 0; k < 64; k++) {
            final int values = k;
            all.add(x -> x.model(values));
            all.add(x -> x.broken(values));
        }
        return all;
    }
}
