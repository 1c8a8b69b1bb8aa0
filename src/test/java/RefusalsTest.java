import java.util.List;

/**
 * Each call that the document refuses, by its sentence: the error that it names (where several apply, the one that
 * goes ahead), and nothing changed by the refused call, also not what undo and play do behind it.
 */
public final class RefusalsTest extends Bench {
    private interface CallWith {
        long on(OrderedClauses x, int argument);
    }

    public static void main(String[] args) {
        statesAreAsNeeded();
        tellOutOfRange();
        tellOfA41st();
        rankOutOfRange();
        setOutOfRange();
        noStep();
        noStepAheadOfLimit();
        stepToA41st();
        runOutOfRange();
        runToA41st();
        noSuchClause();
        noSuchThingOfAClause();
        noGreatestLiteral();
        noParents();
        noRefutation();
        negativeModel();
        notSoManyModels();
        brokenOutOfRange();
        noCore();
        followsOutOfRange();
        shareOutOfRange();
        countOutOfRange();
        undoOfAnEmptyHistory();
        typeOutOfRange();
        typeOfA61st();
        faultOutOfRange();
        noFault();
        playOfAFault();
        playOfAFaultAheadOfLimit();
        playOfA41st();
        DUE.close("RefusalsTest");
    }

    private static void refused(String what, Whole.Maker maker, Whole.Call call, int error) {
        List<Long> before = Whole.of(maker);
        List<Long> behind = Whole.of(() -> {
            OrderedClauses x = maker.make();
            DUE.same(what, call.on(x), error);
            return x;
        });
        DUE.holds("nothing is changed by " + what, before.equals(behind));
    }

    /** The values just outside of a range, and the least and the greatest int. */
    private static int[] outside(int least, int greatest) {
        return new int[] {least - 1, greatest + 1, LEAST, GREATEST};
    }

    /** In an empty store, in one with a bit of everything, and in full ones, where other errors may apply, too. */
    private static void outOfRange(String name, int least, int greatest, CallWith call) {
        for (int wrong : outside(least, greatest)) {
            String what = name + " of " + wrong;
            refused(what + " (empty store)", OrderedClauses::new, x -> call.on(x, wrong), INVALID);
            refused(what + " (bit of everything)", RefusalsTest::bitOfEverything, x -> call.on(x, wrong), INVALID);
            refused(what + " (full store and text)", RefusalsTest::fullStoreAndText, x -> call.on(x, wrong), INVALID);
            refused(what + " (empty clause)", RefusalsTest::fortiethIsEmpty, x -> call.on(x, wrong), INVALID);
        }
    }

    /** All 40 are done: a has the greatest rank, so that there are no resolvents. */
    private static OrderedClauses fullAndDone() {
        OrderedClauses x = told(FORTY_WITH_A);
        x.rank(0, 5);
        DUE.same("40 steps", x.run(40), 40);
        return x;
    }

    private static OrderedClauses aheadOfTwoResolvents(int clausesLess) {
        OrderedClauses x = told(without(clausesLess, THIRTY_NINE));
        x.set(1);
        DUE.same("run up to them", x.run(2), 2);
        return x;
    }

    private static void statesAreAsNeeded() {
        OrderedClauses x = bitOfEverything();
        for (int what = 0; what <= 9; what++) {
            DUE.holds("count " + what + " is not 0", x.count(what) > 0);
        }
        DUE.holds("other ranks", x.count(10) != 0);
        DUE.holds("resolvents", x.clauseOf(5, 3) >= 0);
        DUE.same("full", full().count(0), 40);
        DUE.same("full text", fullStoreAndText().count(9), 60);
        DUE.same("39", told(THIRTY_NINE).count(0), 39);
    }

    private static void tellOutOfRange() {
        DUE.about("INVALID_ARGUMENT if literals is out of range");
        outOfRange("tell", 0, 4095, OrderedClauses::tell);
    }

    private static void tellOfA41st() {
        DUE.about("LIMIT_REACHED if there are 40 and it would come.");
        refused("tell of one that drops none", RefusalsTest::full, x -> x.tell(bits("def")), LIMIT);
        refused("tell of one that would drop", RefusalsTest::full, x -> x.tell(bits("-a-b")), LIMIT);
        refused("tell of the empty clause", RefusalsTest::full, x -> x.tell(0), LIMIT);
        refused("tell with all done", RefusalsTest::fullAndDone, x -> x.tell(bits("b")), LIMIT);
    }

    private static void rankOutOfRange() {
        DUE.about("INVALID_ARGUMENT if an argument is out of range.");
        outOfRange("rank 0 to an atom", 0, 5, (x, atom) -> x.rank(atom, 0));
        outOfRange("rank 5 to an atom", 0, 5, (x, atom) -> x.rank(atom, 5));
        outOfRange("rank to atom 0", 0, 5, (x, rank) -> x.rank(0, rank));
        outOfRange("rank to atom 5", 0, 5, (x, rank) -> x.rank(5, rank));
        outOfRange("rank and atom", 0, 5, (x, both) -> x.rank(both, both));
    }

    private static void setOutOfRange() {
        DUE.about("INVALID_ARGUMENT if value is out of range.");
        outOfRange("set", 1, 9, OrderedClauses::set);
        refused("set of -1", RefusalsTest::bitOfEverything, x -> x.set(-1), INVALID);
    }

    private static void noStep() {
        DUE.about("If there is no open clause, or the empty clause is in the store, there is no step.");
        refused("step of an empty store", OrderedClauses::new, OrderedClauses::step, IMPOSSIBLE);
        refused("step of an emptied store", RefusalsTest::emptied, OrderedClauses::step, IMPOSSIBLE);
        refused("step with all done", RefusalsTest::oneDone, OrderedClauses::step, IMPOSSIBLE);
        refused("step with the empty clause told", () -> told("a 0"), OrderedClauses::step, IMPOSSIBLE);
        refused("step with the empty clause come", RefusalsTest::refuted, OrderedClauses::step, IMPOSSIBLE);
    }

    private static OrderedClauses emptied() {
        OrderedClauses x = told("a b");
        DUE.same("empty", x.empty(), 2);
        return x;
    }

    private static OrderedClauses oneDone() {
        OrderedClauses x = told("a");
        DUE.same("step", x.step(), 0);
        return x;
    }

    private static void noStepAheadOfLimit() {
        DUE.about("NOT_POSSIBLE rather than LIMIT_REACHED");
        refused("step of 40 that are done", RefusalsTest::fullAndDone, OrderedClauses::step, IMPOSSIBLE);
        refused("step of 40 with the empty one", RefusalsTest::fortiethIsEmpty, OrderedClauses::step, IMPOSSIBLE);
    }

    private static void stepToA41st() {
        DUE.about("LIMIT_REACHED if a clause would come, and there are 40.");
        refused("step of 40", RefusalsTest::fullAheadOfLimit, OrderedClauses::step, LIMIT);
        refused("step of 39 that brings two", () -> aheadOfTwoResolvents(0), OrderedClauses::step, LIMIT);
    }

    /** The next step's first resolvent holds always, the second one would come. */
    private static OrderedClauses fullAheadOfLimit() {
        OrderedClauses x = full();
        DUE.same("first step", x.step(), 0);
        DUE.same("second step", x.step(), 1);
        return x;
    }

    private static void runOutOfRange() {
        DUE.about("INVALID_ARGUMENT if most is out of range");
        outOfRange("run", 1, 40, OrderedClauses::run);
        refused("run of -1", RefusalsTest::bitOfEverything, x -> x.run(-1), INVALID);
        refused("run of 41 ahead of the limit", RefusalsTest::fullAheadOfLimit, x -> x.run(41), INVALID);
    }

    private static void runToA41st() {
        DUE.about("LIMIT_REACHED if one of them would have it.");
        refused("run whose only step has it", RefusalsTest::fullAheadOfLimit, x -> x.run(1), LIMIT);
        refused("run whose first step has it", RefusalsTest::fullAheadOfLimit, x -> x.run(40), LIMIT);
        refused("run whose last step has it", RefusalsTest::full, x -> x.run(3), LIMIT);
        refused("run whose third step has it", RefusalsTest::full, x -> x.run(40), LIMIT);
        refused("run of 39 that brings two", () -> aheadOfTwoResolvents(0), x -> x.run(2), LIMIT);
        refused("run of 38 that brings two and more", () -> aheadOfTwoResolvents(1), x -> x.run(40), LIMIT);
    }

    private static void noSuchClause() {
        DUE.about("INVALID_ARGUMENT if there is no such clause or what is out of range");
        noSuchClause("clauseOf", (x, clause) -> x.clauseOf(clause, 0));
        DUE.about("If several errors apply to a call, INVALID_ARGUMENT is returned rather than NOT_POSSIBLE");
        for (int what = 2; what <= 5; what++) {
            final int asked = what;
            noSuchClause("clauseOf " + what, (x, clause) -> x.clauseOf(clause, asked));
        }
        DUE.about("INVALID_ARGUMENT if there is no such clause.");
        noSuchClause("tree", OrderedClauses::tree);
        noSuchClause("widest", OrderedClauses::widest);
    }

    private static void noSuchClause(String name, CallWith call) {
        refused(name + " of 0 in an empty store", OrderedClauses::new, x -> call.on(x, 0), INVALID);
        refused(name + " of 0 in an emptied store", RefusalsTest::emptied, x -> call.on(x, 0), INVALID);
        for (int wrong : outside(0, 0)) {
            refused(name + " of " + wrong + " with one", () -> told("a"), x -> call.on(x, wrong), INVALID);
        }
        for (int wrong : outside(0, 38)) {
            refused(name + " of " + wrong + " with 39", () -> told(THIRTY_NINE), x -> call.on(x, wrong), INVALID);
        }
        for (int wrong : outside(0, 39)) {
            refused(name + " of " + wrong + " with 40", RefusalsTest::full, x -> call.on(x, wrong), INVALID);
        }
    }

    private static void noSuchThingOfAClause() {
        DUE.about("INVALID_ARGUMENT if there is no such clause or what is out of range");
        for (int wrong : outside(0, 8)) {
            String what = "clauseOf what " + wrong;
            refused(what, RefusalsTest::bitOfEverything, x -> x.clauseOf(0, wrong), INVALID);
            refused(what + " of the empty clause", RefusalsTest::fortiethIsEmpty, x -> x.clauseOf(39, wrong), INVALID);
            refused(what + " of no clause", OrderedClauses::new, x -> x.clauseOf(0, wrong), INVALID);
        }
    }

    private static void noGreatestLiteral() {
        DUE.about("NOT_FOUND for 2 if it is empty");
        refused("greatest of one told", RefusalsTest::fortiethIsEmpty, x -> x.clauseOf(39, 2), MISSING);
        refused("greatest of one come", RefusalsTest::refuted, x -> x.clauseOf(2, 2), MISSING);
    }

    private static void noParents() {
        DUE.about("for 3 to 5 if it was told");
        for (int what = 3; what <= 5; what++) {
            final int asked = what;
            refused("what " + what + " of one told", RefusalsTest::full, x -> x.clauseOf(0, asked), MISSING);
            refused("what " + what + " of the last", RefusalsTest::full, x -> x.clauseOf(39, asked), MISSING);
            refused("what " + what + " of the empty one", RefusalsTest::fortiethIsEmpty,
                x -> x.clauseOf(39, asked), MISSING);
        }
    }

    private static void noRefutation() {
        DUE.about("Returns its number; NOT_FOUND if there is none.");
        refused("refutation of an empty store", OrderedClauses::new, OrderedClauses::refutation, MISSING);
        refused("refutation of 40", RefusalsTest::full, OrderedClauses::refutation, MISSING);
        refused("refutation ahead of steps", () -> told("a -a"), OrderedClauses::refutation, MISSING);
    }

    private static void negativeModel() {
        DUE.about("INVALID_ARGUMENT if index is negative");
        for (int wrong : new int[] {-1, LEAST}) {
            String what = "model " + wrong;
            refused(what, OrderedClauses::new, x -> x.model(wrong), INVALID);
            refused(what + " of 40", () -> told(FORTY_WITH_A), x -> x.model(wrong), INVALID);
            refused(what + " without any", RefusalsTest::full, x -> x.model(wrong), INVALID);
        }
    }

    private static void notSoManyModels() {
        DUE.about("NOT_FOUND if there are not so many.");
        for (int index : new int[] {64, 65, GREATEST}) {
            refused("model " + index, OrderedClauses::new, x -> x.model(index), MISSING);
        }
        for (int index : new int[] {32, 63, 64, GREATEST}) {
            refused("model " + index + " of 32", () -> told(FORTY_WITH_A), x -> x.model(index), MISSING);
        }
        for (int index : new int[] {0, 1, 63, GREATEST}) {
            refused("model " + index + " of none", RefusalsTest::full, x -> x.model(index), MISSING);
        }
    }

    private static void brokenOutOfRange() {
        DUE.about("INVALID_ARGUMENT if values is out of range.");
        outOfRange("broken", 0, 63, OrderedClauses::broken);
    }

    private static void noCore() {
        DUE.about("NOT_FOUND if all can be fulfilled together.");
        refused("core of an empty store", OrderedClauses::new, OrderedClauses::core, MISSING);
        refused("core of one", () -> told("a"), OrderedClauses::core, MISSING);
        refused("core of 40", () -> told(FORTY_WITH_A), OrderedClauses::core, MISSING);
        refused("core with one model", () -> told("a b c d e -f"), OrderedClauses::core, MISSING);
    }

    private static void followsOutOfRange() {
        DUE.about("INVALID_ARGUMENT if literals is out of range.");
        outOfRange("follows", 0, 4095, OrderedClauses::follows);
    }

    private static void shareOutOfRange() {
        DUE.about("INVALID_ARGUMENT if literals is out of range.");
        outOfRange("share", 0, 4095, OrderedClauses::share);
    }

    private static void countOutOfRange() {
        DUE.about("INVALID_ARGUMENT if what is out of range.");
        outOfRange("count", 0, 15, OrderedClauses::count);
    }

    private static void undoOfAnEmptyHistory() {
        DUE.about("NOT_POSSIBLE if it is empty.");
        refused("undo of a new object", OrderedClauses::new, OrderedClauses::undo, IMPOSSIBLE);
        refused("undo with a text", () -> typed(new OrderedClauses(), "a;"), OrderedClauses::undo, IMPOSSIBLE);
        refused("undo behind one undone", () -> undone(told("a"), 1), OrderedClauses::undo, IMPOSSIBLE);
        refused("undo behind four undone", () -> undone(bitOfEverything(), 4), OrderedClauses::undo, IMPOSSIBLE);
        refused("undo of 40, behind four", () -> undone(full(), 4), OrderedClauses::undo, IMPOSSIBLE);
    }

    private static OrderedClauses undone(OrderedClauses x, int times) {
        for (int left = times - 1; left >= 0; left--) {
            DUE.same("states left", x.undo(), left);
        }
        return x;
    }

    private static void typeOutOfRange() {
        DUE.about("INVALID_ARGUMENT if character is out of range");
        outOfRange("type", 32, 126, OrderedClauses::type);
        for (int wrong : new int[] {0, -1, 128, 255, 256 + 'a', 65536 + 'a'}) {
            refused("type of " + wrong, RefusalsTest::bitOfEverything, x -> x.type(wrong), INVALID);
        }
    }

    private static void typeOfA61st() {
        DUE.about("LIMIT_REACHED if it has 60 characters.");
        for (int character : new int[] {32, ';', 'a', 126}) {
            refused("61st " + character, RefusalsTest::fullStoreAndText, x -> x.type(character), LIMIT);
            refused("61st of a fault " + character, () -> withText("?".repeat(60)), x -> x.type(character), LIMIT);
        }
    }

    private static OrderedClauses withText(String text) {
        return typed(new OrderedClauses(), text);
    }

    private static void faultOutOfRange() {
        DUE.about("INVALID_ARGUMENT if what is out of range");
        outOfRange("fault", 0, 1, OrderedClauses::fault);
        for (int wrong : outside(0, 1)) {
            refused("fault " + wrong + " of a fault", () -> withText("a;?"), x -> x.fault(wrong), INVALID);
        }
    }

    private static void noFault() {
        DUE.about("NOT_FOUND if the text has no fault (also if it is empty).");
        for (String text : new String[] {"", ";", "a;", "-f;;ab-c;", ";".repeat(60), "a".repeat(59) + ";"}) {
            for (int what = 0; what <= 1; what++) {
                final int asked = what;
                refused("fault " + what + " of " + text, () -> withText(text), x -> x.fault(asked), MISSING);
            }
        }
    }

    private static void playOfAFault() {
        DUE.about("NOT_POSSIBLE if the text has a fault");
        String[] faulty = {
            "?", "a", "-", "g;", "-;", "a-;", "ab", "a;b", "a;b;?", "a;-b-", "a;b?;c;", "--a;", "a; b;", ";A;", "a,",
            "?" + ";".repeat(59), ";".repeat(30) + "?" + ";".repeat(29), ";".repeat(59) + "?", "a".repeat(60)
        };
        for (String text : faulty) {
            refused("play of " + text, () -> withText(text), OrderedClauses::play, IMPOSSIBLE);
            refused("play of " + text + " too", () -> typed(bitOfEverything(), text), OrderedClauses::play, IMPOSSIBLE);
        }
    }

    private static void playOfAFaultAheadOfLimit() {
        DUE.about("NOT_POSSIBLE rather than LIMIT_REACHED");
        refused("a fault behind the 41st", () -> typed(full(), "def;?"), OrderedClauses::play, IMPOSSIBLE);
        refused("a fault ahead of the 41st", () -> typed(full(), "?;def;"), OrderedClauses::play, IMPOSSIBLE);
        refused("the 41st ends too early", () -> typed(full(), "def"), OrderedClauses::play, IMPOSSIBLE);
    }

    private static void playOfA41st() {
        DUE.about("LIMIT_REACHED if there are 40 and one of them would come.");
        refused("the only one", () -> typed(full(), "def;"), OrderedClauses::play, LIMIT);
        refused("the empty one", () -> typed(full(), ";"), OrderedClauses::play, LIMIT);
        refused("the last one", () -> typed(full(), "a-a;abc;abf;def;"), OrderedClauses::play, LIMIT);
        refused("the first one", () -> typed(full(), "def;a-a;abc;abf;"), OrderedClauses::play, LIMIT);
        refused("the second one", () -> typed(told(THIRTY_NINE), "def;a-a;ab;"), OrderedClauses::play, LIMIT);
        refused("one behind some that drop", () -> typed(told(THIRTY_NINE), "a;b;"), OrderedClauses::play, LIMIT);
        refused("full store and text", RefusalsTest::fullStoreAndText, OrderedClauses::play, LIMIT);
    }
}
