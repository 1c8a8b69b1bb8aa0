/**
 * The boundary cases that a sentence of the document names and that are no errors, sentence by sentence: the least
 * and greatest arguments, an empty store and a full one, the empty clause, no open clause, the fifth state, the text's
 * ends. What is refused stands in RefusalsTest.
 */
public final class BoundariesTest extends Bench {
    private interface Call {
        long on(OrderedClauses x);
    }

    public static void main(String[] args) {
        last512thCall();
        countsOver512Calls();
        lettersAndLiterals();
        holdsAlways();
        emptyClauseIsFulfilledByNothing();
        ranksAtFirst();
        greaterOfTheSameAtom();
        lessAtItsEdges();
        lessWithDroppedOnes();
        numbersFrom0To39();
        numbersAreNotUsedAgain();
        numbersAreGoneWithTheStore();
        nothingIsLeftOfTheStore();
        openDoneDropped();
        fortyAndHoldsAlways();
        fortyAndAnotherWithin();
        withinItself();
        dropsAllAround();
        fortiethComes();
        fewestLiterals();
        eachSettingthStep();
        stepsOfSettings();
        resolvents();
        partners();
        partnersInOrder();
        endsWhenDropped();
        endsWithTheEmptyClause();
        noResolventTo40();
        fortiethByAStep();
        settings();
        emptyStore();
        fulfillableForty();
        unfulfillableForty();
        told();
        ranksOfAllPairs();
        ranksChangeTwice();
        openAgain();
        runAtItsEdges();
        emptyKeeps();
        clauseOfAtItsEdges();
        depths();
        treesAtTheirEdges();
        widestAtItsEdges();
        refutationAtItsEdges();
        modelsAtTheirEdges();
        brokenAtItsEdges();
        coreAtItsEdges();
        followsAtItsEdges();
        sharesAtTheirEdges();
        countsAtTheirEdges();
        changesThatChangeNothing();
        noChanges();
        fourStatesAndTheFifth();
        undoRestoresAllButTheText();
        undoRestoresNumbersUsedAgain();
        sixtyCharacters();
        nothingIsLeftOfTheText();
        eachCharacter();
        eachPlaceOfAFault();
        firstFaultOfSeveral();
        playAtItsEdges();
        playOfForty();
        playIsOneChange();
        DUE.close("BoundariesTest");
    }

    private static OrderedClauses fortyWithoutResolvents() {
        OrderedClauses x = told(FORTY_WITH_A);
        x.rank(0, 5);
        return x;
    }

    private static void status(OrderedClauses x, String statuses) {
        for (int i = 0; i < statuses.length(); i++) {
            DUE.same("status of " + i, x.clauseOf(i, 1), statuses.charAt(i) - '0');
        }
    }

    private static void counted(OrderedClauses x, int clauses, int open, int done, int dropped) {
        DUE.same("clauses", x.count(0), clauses);
        DUE.same("open ones", x.count(1), open);
        DUE.same("done ones", x.count(2), done);
        DUE.same("dropped ones", x.count(3), dropped);
    }

    // ---- terms

    private static void last512thCall() {
        DUE.about("An object is used for at most 512 calls after it has been made");
        lastCall("tell", x -> x.tell(1), 0);
        lastCall("rank", x -> x.rank(0, 5), 0);
        lastCall("set", x -> x.set(9), 7);
        lastCall("step", OrderedClauses::step, IMPOSSIBLE);
        lastCall("run", x -> x.run(40), 0);
        lastCall("empty", OrderedClauses::empty, 0);
        lastCall("models", OrderedClauses::models, 64);
        lastCall("count", x -> x.count(5), 7);
        lastCall("undo", OrderedClauses::undo, 3);
        lastCall("type", x -> x.type(32), 1);
        lastCall("fault", x -> x.fault(0), MISSING);
        lastCall("play", OrderedClauses::play, 0);
        lastCall("clauseOf", x -> x.clauseOf(0, 0), INVALID);
    }

    private static void lastCall(String name, Call call, int wanted) {
        OrderedClauses x = new OrderedClauses();
        for (int i = 0; i < 511; i++) {
            x.set(i % 9 + 1);
        }
        DUE.same("the 512th call, " + name, call.on(x), wanted);
    }

    private static void countsOver512Calls() {
        DUE.about("so far");
        OrderedClauses x = fortyWithoutResolvents();
        for (int i = 1; i <= 230; i++) {
            DUE.same("40 steps", x.run(40), 40);
            DUE.same("all are open again", x.rank(0, 5), 5);
        }
        DUE.same("steps", x.count(4), 9200);
        DUE.same("undo of the last rank", x.undo(), 3);
        DUE.same("undo of the last run", x.undo(), 2);
        DUE.same("steps", x.count(4), 9160);
        OrderedClauses y = typed(new OrderedClauses(), "a-a;".repeat(15));
        OrderedClauses z = typed(new OrderedClauses(), ";".repeat(60));
        for (int i = 1; i <= 450; i++) {
            DUE.same("none comes", y.play(), 0);
            DUE.same("only the first one comes", z.play(), i == 1 ? 1 : 0);
        }
        DUE.same("held always", y.count(6), 6750);
        DUE.same("another within", z.count(7), 26999);
    }

    private static void lettersAndLiterals() {
        DUE.about("There are 6 atoms, 0 to 5, told as the letters a to f.");
        for (int literal = 0; literal < 12; literal++) {
            OrderedClauses x = new OrderedClauses();
            DUE.same("tell", x.tell(1 << literal), 0);
            DUE.same("its greatest literal", x.clauseOf(0, 2), literal);
            typed(x, (literal % 2 == 1 ? "-" : "") + (char) ('a' + literal / 2) + ";");
            x.empty();
            DUE.same("play", x.play(), 1);
            DUE.same("the same from the text", x.clauseOf(0, 0), 1 << literal);
            for (int values = 0; values < 64; values++) {
                boolean isBroken = (values >> (literal / 2) & 1) == literal % 2;
                DUE.same("broken by " + values, x.broken(values), isBroken ? 1 : 0);
            }
        }
    }

    private static void holdsAlways() {
        DUE.about("It holds always if it has both literals of an atom.");
        for (int atom = 0; atom < 6; atom++) {
            OrderedClauses x = new OrderedClauses();
            DUE.same("both of " + atom, x.tell(3 << (2 * atom)), -1);
            DUE.same("both and others", x.tell(3 << (2 * atom) | 1365), -1);
            DUE.same("count", x.count(6), 2);
            if (atom < 5) {
                DUE.same("the neighbours of two atoms", x.tell(6 << (2 * atom)), 0);
            }
        }
        OrderedClauses x = new OrderedClauses();
        DUE.same("all that hold", x.tell(1365), 0);
        DUE.same("all that do not", x.tell(2730), 1);
        DUE.same("all", x.tell(4095), -1);
    }

    private static void emptyClauseIsFulfilledByNothing() {
        DUE.about("The empty clause is fulfilled by nothing.");
        OrderedClauses x = told("0");
        for (int values = 0; values < 64; values++) {
            DUE.same("broken by " + values, x.broken(values), 1);
        }
        DUE.same("models", x.models(), 0);
        DUE.same("model", x.model(0), MISSING);
        DUE.same("share", x.share(0), 0);
    }

    private static void ranksAtFirst() {
        DUE.about("at first the rank of an atom is its number.");
        OrderedClauses x = new OrderedClauses();
        for (int atom = 0; atom < 6; atom++) {
            DUE.same("rank of " + atom, x.count(10 + atom), atom);
            DUE.same("as rank tells it", new OrderedClauses().rank(atom, 0), atom);
        }
    }

    private static void greaterOfTheSameAtom() {
        DUE.about("of the same atom the one that does not hold is greater.");
        for (int atom = 0; atom < 6; atom++) {
            OrderedClauses x = new OrderedClauses();
            x.tell(1 << (2 * atom));
            x.tell(2 << (2 * atom));
            DUE.same("less than the holding one", x.clauseOf(0, 7), 0);
            DUE.same("less than the other one", x.clauseOf(1, 7), 1);
        }
        DUE.about("A literal is greater than another one if its atom has the greater rank");
        OrderedClauses y = told("-ab");
        DUE.same("b", y.clauseOf(0, 2), 2);
        y.rank(0, 5);
        DUE.same("-a", y.clauseOf(0, 2), 1);
        y.rank(1, 5);
        DUE.same("b again", y.clauseOf(0, 2), 2);
    }

    private static void lessAtItsEdges() {
        DUE.about("of the literals that just one of both has, the greatest one is in the other one.");
        DUE.same("not less than itself", told("abcdef").clauseOf(0, 7), 0);
        OrderedClauses x = told("f a -e");
        x.tell(0);
        x.undo();
        DUE.same("the least of three", x.clauseOf(1, 7), 0);
        DUE.same("the middle one", x.clauseOf(2, 7), 1);
        DUE.same("the greatest of three", x.clauseOf(0, 7), 2);
        OrderedClauses y = told(FORTY);
        boolean[] seen = new boolean[40];
        for (int clause = 0; clause < 40; clause++) {
            int less = y.clauseOf(clause, 7);
            DUE.holds("another place for " + clause, less >= 0 && less < 40 && !seen[less]);
            seen[Math.floorMod(less, 40)] = true;
        }
        DUE.same("the least of all: abc", y.clauseOf(0, 7), 0);
        DUE.same("the greatest of all: -a-b-f", y.clauseOf(31, 7), 39);
    }

    private static void lessWithDroppedOnes() {
        DUE.about("how many of the clauses of the store that are not dropped are less than it");
        OrderedClauses x = told("ab ac a 0");
        status(x, "2220");
        DUE.same("the empty one is less", x.clauseOf(0, 7), 1);
        DUE.same("than each one", x.clauseOf(1, 7), 1);
        DUE.same("but itself", x.clauseOf(3, 7), 0);
    }

    // ---- the store

    private static void numbersFrom0To39() {
        DUE.about("There are at most 40 clauses in the store, numbered from 0 in the order in which they came");
        OrderedClauses x = told(FORTY);
        DUE.same("clauses", x.count(0), 40);
        clauseIs(x, 0, "abc", 0);
        clauseIs(x, 39, "-a-c-d", 0);
        DUE.same("no 41st", x.clauseOf(40, 0), INVALID);
    }

    private static void numbersAreNotUsedAgain() {
        DUE.about("numbers are never used again");
        OrderedClauses x = told("abc ab a");
        DUE.same("behind dropped ones", x.tell(bits("b")), 3);
        clauseIs(x, 0, "abc", 2);
        clauseIs(x, 1, "ab", 2);
        OrderedClauses y = told(without(1, FORTY));
        DUE.same("the fortieth drops 39", y.tell(0), 39);
        counted(y, 40, 1, 0, 39);
        clauseIs(y, 0, "abc", 2);
        clauseIs(y, 38, "-a-cd", 2);
    }

    private static void numbersAreGoneWithTheStore() {
        DUE.about("but all are gone when the store is emptied");
        OrderedClauses x = told(FORTY);
        DUE.same("empty", x.empty(), 40);
        DUE.same("no first one", x.clauseOf(0, 0), INVALID);
        DUE.same("no last one", x.clauseOf(39, 0), INVALID);
        int number = 0;
        for (String clause : FORTY_WITH_A.split(" ")) {
            DUE.same("from 0", x.tell(bits(clause)), number);
            number++;
        }
        DUE.same("full again", x.tell(bits("b")), LIMIT);
    }

    private static void nothingIsLeftOfTheStore() {
        DUE.about("but all are gone when the store is emptied");
        OrderedClauses x = told("ab -c a");
        DUE.same("run", x.run(40), 2);
        status(x, "211");
        DUE.same("empty", x.empty(), 3);
        DUE.same("one", x.tell(bits("c")), 0);
        DUE.same("which is open", x.clauseOf(0, 1), 0);
        DUE.same("step", x.step(), 0);
        DUE.same("no resolvent with a former one", x.count(0), 1);
        DUE.same("another one", x.tell(bits("-c")), 1);
        DUE.same("which is open", x.clauseOf(1, 1), 0);
        DUE.same("core is without former ones", x.core(), 3);
        DUE.same("models", x.models(), 0);
        DUE.same("a third one", x.tell(bits("d")), 2);
        DUE.same("which is open", x.clauseOf(2, 1), 0);
        counted(x, 3, 2, 1, 0);
    }

    private static void openDoneDropped() {
        DUE.about("A clause is open (nothing was done with it yet), done, or dropped.");
        OrderedClauses x = told("ab cd c");
        status(x, "020");
        DUE.same("step", x.step(), 2);
        status(x, "021");
        x.tell(0);
        status(x, "2220");
    }

    private static void fortyAndHoldsAlways() {
        DUE.about("If it holds always, it does not come (1).");
        OrderedClauses x = told(FORTY);
        DUE.same("in a full store", x.tell(bits("f-f")), -1);
        DUE.same("also with another within", x.tell(bits("abc-c")), -1);
        DUE.same("all literals", x.tell(4095), -1);
        DUE.same("held always", x.count(6), 3);
        DUE.same("another within", x.count(7), 0);
        counted(x, 40, 40, 0, 0);
        OrderedClauses y = told("0");
        DUE.same("with the empty clause", y.tell(3), -1);
        DUE.same("held always", y.count(6), 1);
        DUE.same("another within", y.count(7), 0);
    }

    private static void fortyAndAnotherWithin() {
        DUE.about("(has no literal that it has not; also the same one), it does not come (2).");
        OrderedClauses x = told(FORTY);
        DUE.same("the first one", x.tell(bits("abc")), -2);
        DUE.same("the last one", x.tell(bits("-a-c-d")), -2);
        DUE.same("a wider one", x.tell(bits("-a-c-def")), -2);
        DUE.same("another within", x.count(7), 3);
        counted(x, 40, 40, 0, 0);
        DUE.same("a part is not", x.tell(bits("bf")), LIMIT);
    }

    private static void withinItself() {
        DUE.about("(has no literal that it has not; also the same one), it does not come (2).");
        OrderedClauses x = told("ab");
        DUE.same("the same one", x.tell(bits("ab")), -2);
        DUE.same("one more literal", x.tell(bits("abc")), -2);
        DUE.same("one other literal", x.tell(bits("ac")), 1);
        DUE.same("the other way", x.tell(bits("a-b")), 2);
        DUE.same("within a done one", x.step(), 0);
        DUE.same("the same one, done", x.tell(bits("ab")), -2);
        DUE.same("one literal less", x.tell(bits("a")), 3);
        DUE.same("within a dropped one and another", x.tell(bits("ab")), -2);
        DUE.same("the empty clause", x.tell(0), 4);
        DUE.same("the same empty clause", x.tell(0), -2);
    }

    private static void dropsAllAround() {
        DUE.about("and within which it is, is dropped (but not itself).");
        OrderedClauses x = told("abc abd -ab cd ab");
        status(x, "22000");
        OrderedClauses y = told("bc cd");
        y.run(2);
        status(y, "11");
        DUE.same("tell", y.tell(bits("c")), 2);
        status(y, "220");
        OrderedClauses z = told(without(1, FORTY_WITH_A));
        DUE.same("the fortieth", z.tell(bits("a")), 39);
        counted(z, 40, 1, 0, 39);
        clauseIs(z, 39, "a", 0);
    }

    private static void fortiethComes() {
        DUE.about("If there are 40 clauses in the store, and it would come, this is LIMIT_REACHED.");
        OrderedClauses x = told(without(1, FORTY));
        DUE.same("the fortieth", x.tell(bits("def")), 39);
        DUE.same("the 41st", x.tell(bits("de-f")), LIMIT);
        OrderedClauses y = told(without(2, FORTY));
        DUE.same("one that drops leaves its number", y.tell(bits("ab")), 38);
        DUE.same("the fortieth", y.tell(bits("cd")), 39);
        DUE.same("dropped ones count, too", y.tell(bits("ef")), LIMIT);
    }

    // ---- steps

    private static void fewestLiterals() {
        DUE.about("The open clause with the fewest literals is chosen; of several the one that came first");
        DUE.same("six literals", told("abcdef").step(), 0);
        DUE.same("six and five", told("-abcdef abcdf").step(), 1);
        DUE.same("the last one", told("abc de f").step(), 2);
        DUE.same("the first of two", told("abc de df").step(), 1);
        DUE.same("of forty", told(FORTY).step(), 0);
        OrderedClauses x = told("ab cd");
        DUE.same("the first", x.step(), 0);
        DUE.same("a done one is not chosen", x.step(), 1);
        DUE.same("nor a dropped one", told("ab bc b").step(), 2);
    }

    private static void eachSettingthStep() {
        DUE.about("but each setting 0-th step");
        String[] orders = {
            "0123456789a", "2031456789a", "2304516789a", "2340567189a", "2345067891a",
            "234560789a1", "234567089a1", "234567809a1", "234567890a1"
        };
        for (int setting = 1; setting <= 9; setting++) {
            chosen(setting, orders[setting - 1]);
        }
    }

    private static void chosen(int setting, String order) {
        OrderedClauses x = told("abc a-bc de df ef cd ce cf bd be bf");
        x.set(setting);
        for (int i = 0; i < order.length(); i++) {
            DUE.same("step " + (i + 1) + " with " + setting, x.step(), Character.digit(order.charAt(i), 16));
        }
        DUE.same("none is left", x.step(), IMPOSSIBLE);
        DUE.same("none came", x.count(0), 11);
    }

    private static void stepsOfSettings() {
        DUE.about("(that is, if the number of steps done so far plus 1 can be divided by setting 0 without a rest)");
        OrderedClauses x = told("abc de df ef");
        DUE.same("run counts its steps", x.run(2), 2);
        DUE.same("the third", x.step(), 3);
        DUE.same("steps", x.count(4), 3);
        x.undo();
        x.set(3);
        DUE.same("the third with 3", x.step(), 0);
        x.undo();
        x.undo();
        x.set(2);
        DUE.same("the third with 2", x.step(), 3);
        OrderedClauses y = told("abc de");
        y.set(2);
        DUE.same("a step that is none is not counted", y.run(40), 2);
        DUE.same("none", y.step(), IMPOSSIBLE);
        DUE.same("none", y.run(40), 0);
        DUE.same("two", y.count(4), 2);
        y.rank(0, 1);
        DUE.same("the third, ranks change no counts", y.step(), 1);
        DUE.same("the fourth", y.step(), 0);
        DUE.about("steps are counted from 0 again");
        OrderedClauses z = told("ab");
        z.set(2);
        z.step();
        z.empty();
        z.tell(bits("abc"));
        z.tell(bits("de"));
        DUE.same("the first one", z.step(), 1);
        DUE.same("steps", z.count(4), 1);
    }

    private static void resolvents() {
        DUE.about("of the same atom, l holding and m not, has all literals of both but l and m.");
        resolventIs("a -a", "0");
        resolventIs("-f f", "0");
        resolventIs("abcdef abcde-f", "abcde");
        resolventIs("-a-b-c-d-e-f -a-b-c-d-ef", "-a-b-c-d-e");
        resolventIs("abf -c-d-f", "ab-c-d");
        resolventIs("f abcde-f", "abcde");
        resolventIs("-a-b-c-d-ef -f", "-a-b-c-d-e");
    }

    /** The greatest literals of the two are those of the same atom. */
    private static void resolventIs(String two, String resolvent) {
        OrderedClauses x = told(two);
        DUE.same("run of " + two, x.run(2), 2);
        clauseIs(x, 2, resolvent, 0);
        DUE.same("only one came", x.count(0), 3);
    }

    private static void partners() {
        DUE.about("With each clause that is done and not dropped");
        OrderedClauses x = told("ac b-c d-c");
        DUE.same("none is done yet", x.step(), 0);
        DUE.same("so none came", x.count(0), 3);
        DUE.same("one is done", x.step(), 1);
        clauseIs(x, 3, "ab", 0);
        DUE.same("but not with the open one", x.count(0), 4);
        DUE.about("whose greatest literal is that of the same atom the other way");
        OrderedClauses y = told("ac -bc b-d -ad");
        y.set(1);
        DUE.same("of the same sign, of others, and lesser ones", y.run(3), 3);
        DUE.same("none came", y.count(0), 4);
        DUE.same("step", y.step(), 3);
        clauseIs(y, 4, "-ab", 0);
        DUE.same("only one came", y.count(0), 5);
    }

    private static void partnersInOrder() {
        DUE.about("in the order of their numbers (not itself)");
        OrderedClauses x = told("abd ace bd -aef cd -d");
        x.set(1);
        status(x, "200000");
        DUE.same("run", x.run(4), 4);
        DUE.same("step", x.step(), 5);
        clauseIs(x, 6, "b", 0);
        clauseIs(x, 7, "c", 0);
        DUE.same("parents of the first", x.clauseOf(6, 3) * 10 + x.clauseOf(6, 4), 25);
        DUE.same("parents of the second", x.clauseOf(7, 3) * 10 + x.clauseOf(7, 4), 45);
        DUE.same("no more", x.count(0), 8);
    }

    private static void endsWhenDropped() {
        DUE.about("If the chosen one is dropped meanwhile, the step ends at once.");
        OrderedClauses x = told("a-c -a-c b-c ac");
        x.set(1);
        DUE.same("ahead of it", x.run(3), 3);
        DUE.same("nothing so far", x.count(6) + x.count(7), 0);
        DUE.same("step", x.step(), 3);
        clauseIs(x, 4, "a", 0);
        status(x, "21120");
        DUE.same("what would hold always did not come", x.count(6), 0);
        DUE.same("nor what had another within", x.count(7), 0);
        DUE.same("clauses", x.count(0), 5);
        OrderedClauses y = told("-a-c b-c a-c ac");
        y.set(1);
        y.run(4);
        DUE.same("ahead of the end they come", y.count(6), 1);
        clauseIs(y, 4, "ab", 2);
        clauseIs(y, 5, "a", 0);
    }

    private static void endsWithTheEmptyClause() {
        DUE.about("If the empty clause comes, the step ends at once, too.");
        OrderedClauses x = told("bc a -a");
        DUE.same("step", x.step(), 1);
        DUE.same("step", x.step(), 2);
        clauseIs(x, 3, "", 0);
        status(x, "2220");
        DUE.same("steps", x.count(4), 2);
        DUE.same("run does none more", x.run(40), 0);
        DUE.same("steps", x.count(4), 2);
        OrderedClauses y = told("bc a -a");
        DUE.same("run ends, too", y.run(40), 2);
        DUE.same("refuted", y.refutation(), 3);
    }

    private static void noResolventTo40() {
        DUE.about("LIMIT_REACHED if a clause would come, and there are 40.");
        String others = without(3, FORTY_WITH_A).substring("abc".length());
        OrderedClauses x = told("abc -a-b-c" + others + " def bdf");
        x.rank(0, 5);
        x.set(1);
        DUE.same("full", x.count(0), 40);
        DUE.same("a resolvent that holds always", x.run(2), 2);
        DUE.same("held always", x.count(6), 1);
        DUE.same("clauses", x.count(0), 40);
        OrderedClauses y = told("abc -aef" + others + " cef bdf");
        y.rank(0, 5);
        y.set(1);
        DUE.same("full", y.count(0), 40);
        DUE.same("step", y.step(), 0);
        DUE.same("a resolvent with another one within", y.step(), 1);
        DUE.same("another within", y.count(7), 1);
        DUE.same("clauses", y.count(0), 40);
    }

    private static void fortiethByAStep() {
        DUE.about("LIMIT_REACHED if a clause would come, and there are 40.");
        OrderedClauses x = told(without(1, FORTY));
        DUE.same("run", x.run(2), 2);
        DUE.same("the step that brings the fortieth", x.step(), 2);
        clauseIs(x, 39, "-a-b", 0);
        DUE.same("full", x.count(0), 40);
        DUE.same("the next one", x.step(), LIMIT);
        OrderedClauses y = told(without(1, THIRTY_NINE));
        y.set(1);
        DUE.same("run", y.run(2), 2);
        DUE.same("the step that brings two", y.step(), 2);
        clauseIs(y, 38, "bd", 0);
        clauseIs(y, 39, "ce", 0);
        OrderedClauses z = told(without(1, THIRTY_NINE));
        z.set(1);
        DUE.same("a run that brings two", z.run(3), 3);
        DUE.same("full", z.count(0), 40);
    }

    private static void settings() {
        DUE.about("The settings are (in parentheses: range; first value): 0 (1 to 9; 4).");
        OrderedClauses x = new OrderedClauses();
        DUE.same("the first value", x.count(5), 4);
        int former = 4;
        for (int value : new int[] {1, 9, 9, 1, 5, 8, 2}) {
            DUE.same("set " + value, x.set(value), former);
            DUE.same("setting", x.count(5), value);
            former = value;
        }
    }

    // ---- stores at their edges

    private static void emptyStore() {
        DUE.about("Creates an empty store.");
        asked(new OrderedClauses());
        OrderedClauses x = told("a -a");
        x.run(40);
        x.empty();
        asked(x);
    }

    private static void asked(OrderedClauses x) {
        counted(x, 0, 0, 0, 0);
        DUE.same("steps", x.count(4), 0);
        DUE.same("clauseOf", x.clauseOf(0, 0), INVALID);
        DUE.same("tree", x.tree(0), INVALID);
        DUE.same("widest", x.widest(0), INVALID);
        DUE.same("refutation", x.refutation(), MISSING);
        DUE.same("models", x.models(), 64);
        DUE.same("the first model", x.model(0), 0);
        DUE.same("the last model", x.model(63), 63);
        DUE.same("no more", x.model(64), MISSING);
        DUE.same("broken by 0", x.broken(0), 0);
        DUE.same("broken by 63", x.broken(63), 0);
        DUE.same("core", x.core(), MISSING);
        DUE.same("the empty clause does not follow", x.follows(0), 0);
        DUE.same("nor all that hold", x.follows(1365), 0);
        DUE.same("what holds always follows", x.follows(4095), 1);
        DUE.same("step", x.step(), IMPOSSIBLE);
        DUE.same("run", x.run(40), 0);
        DUE.same("empty", x.empty(), 0);
        DUE.same("rank", x.rank(5, 5), 5);
        DUE.same("play", x.play(), 0);
        DUE.same("tell", x.tell(0), 0);
    }

    private static void fulfillableForty() {
        DUE.about("There are at most 40 clauses in the store");
        OrderedClauses x = fortyWithoutResolvents();
        counted(x, 40, 40, 0, 0);
        DUE.same("models", x.models(), 32);
        DUE.same("the first model", x.model(0), 1);
        DUE.same("the last model", x.model(31), 63);
        DUE.same("no more", x.model(32), MISSING);
        DUE.same("core", x.core(), MISSING);
        DUE.same("a follows", x.follows(bits("a")), 1);
        DUE.same("b does not", x.follows(bits("b")), 0);
        DUE.same("broken by 1", x.broken(1), 0);
        DUE.same("broken by 0: all with two that hold", Long.bitCount(x.broken(0)), 10);
        DUE.same("the first one", x.broken(0) & 15, 1);
        DUE.same("broken by 62: the last one, too", x.broken(62) >> 36, 8);
        DUE.same("run", x.run(40), 40);
        counted(x, 40, 0, 40, 0);
        DUE.same("broken by done ones", x.broken(62) >> 36, 8);
        DUE.same("empty", x.empty(), 40);
        DUE.same("undo", x.undo(), 3);
        counted(x, 40, 0, 40, 0);
    }

    private static void unfulfillableForty() {
        DUE.about("There are at most 40 clauses in the store");
        OrderedClauses x = told(FORTY);
        DUE.same("models", x.models(), 0);
        DUE.same("model", x.model(0), MISSING);
        DUE.same("core: the last eight", x.core(), 0xFF00000000L);
        DUE.same("anything follows", x.follows(0), 1);
        DUE.same("broken by 0", x.broken(0), 0x101010101L);
        DUE.same("tree of the last", x.tree(39), 0x8000000000L);
        DUE.same("widest", x.widest(39), 3);
        DUE.same("refutation", x.refutation(), MISSING);
        DUE.same("rank", x.rank(3, 0), 3);
        DUE.same("set", x.set(9), 4);
    }

    private static void told() {
        DUE.about("that fulfil all clauses of the store that were told.");
        OrderedClauses x = told("ac a-c");
        DUE.same("run", x.run(2), 2);
        status(x, "220");
        DUE.same("also told ones that resolvents dropped", x.models(), 32);
        DUE.same("the least", x.model(0), 1);
        DUE.same("the greatest", x.model(31), 63);
        DUE.same("a follows", x.follows(1), 1);
        DUE.same("c does not", x.follows(16), 0);
        DUE.same("core", x.core(), MISSING);
        OrderedClauses y = told("a -a");
        DUE.same("run", y.run(2), 2);
        DUE.same("models", y.models(), 0);
        DUE.same("core is of told ones", y.core(), 3);
        DUE.same("anything follows", y.follows(0), 1);
        OrderedClauses z = told("ab");
        z.tell(bits("c-c"));
        z.tell(bits("ab-f"));
        DUE.same("what did not come changes nothing", z.models(), 48);
    }

    // ---- ranks, runs, empty

    private static void ranksOfAllPairs() {
        DUE.about("Gives an atom a rank; the atom that had it gets the rank of the former one.");
        for (int atom = 0; atom < 6; atom++) {
            for (int rank = 0; rank < 6; rank++) {
                OrderedClauses x = new OrderedClauses();
                DUE.same("the rank that it had", x.rank(atom, rank), atom);
                for (int other = 0; other < 6; other++) {
                    int wanted = other == atom ? rank : other == rank ? atom : other;
                    DUE.same("rank of " + other + " behind " + atom + ", " + rank, x.count(10 + other), wanted);
                }
            }
        }
    }

    private static void ranksChangeTwice() {
        DUE.about("Gives an atom a rank; the atom that had it gets the rank of the former one.");
        OrderedClauses x = new OrderedClauses();
        DUE.same("a gets 5, f 0", x.rank(0, 5), 0);
        DUE.same("b gets 5, a 1", x.rank(1, 5), 1);
        DUE.same("f gets 1, a 0", x.rank(5, 1), 0);
        int[] wanted = {0, 5, 2, 3, 4, 1};
        for (int atom = 0; atom < 6; atom++) {
            DUE.same("rank of " + atom, x.count(10 + atom), wanted[atom]);
        }
        DUE.same("the rank that it had", x.rank(1, 5), 5);
    }

    private static void openAgain() {
        DUE.about("All clauses that are done and not dropped are open again.");
        OrderedClauses x = told("ab bc c ef");
        DUE.same("run", x.run(2), 2);
        status(x, "1210");
        DUE.same("rank", x.rank(5, 0), 5);
        status(x, "0200");
        DUE.same("run", x.run(40), 3);
        DUE.same("its own rank", x.rank(5, 0), 0);
        status(x, "0200");
        DUE.same("none done", x.count(2), 0);
        OrderedClauses y = fortyWithoutResolvents();
        DUE.same("run", y.run(40), 40);
        y.rank(0, 5);
        counted(y, 40, 40, 0, 0);
    }

    private static void runAtItsEdges() {
        DUE.about("1 to 40: how many at most");
        OrderedClauses x = fortyWithoutResolvents();
        DUE.same("the least", x.run(1), 1);
        counted(x, 40, 39, 1, 0);
        DUE.same("39 are left", x.run(40), 39);
        DUE.same("no more", x.run(1), 0);
        OrderedClauses y = fortyWithoutResolvents();
        DUE.same("all but one", y.run(39), 39);
        counted(y, 40, 1, 39, 0);
        DUE.same("steps", y.count(4), 39);
        OrderedClauses z = fortyWithoutResolvents();
        DUE.same("the greatest", z.run(40), 40);
        DUE.same("steps", z.count(4), 40);
        DUE.about("Does steps, as long as there are any.");
        DUE.same("none", new OrderedClauses().run(1), 0);
        DUE.same("with the empty clause", told("a 0").run(40), 0);
        DUE.same("to the empty clause", told("bc a -a").run(40), 2);
        DUE.same("exactly to it", told("bc a -a").run(2), 2);
    }

    private static void emptyKeeps() {
        DUE.about("ranks, the setting and what count() tells of 6 and 7 stay.");
        OrderedClauses x = told("ab c");
        x.tell(3);
        x.tell(bits("ab"));
        x.tell(bits("cd"));
        x.rank(0, 5);
        x.set(9);
        x.run(40);
        typed(x, "a;?");
        DUE.same("empty", x.empty(), 2);
        counted(x, 0, 0, 0, 0);
        int[] wanted = {0, 9, 1, 2, 4, 3, 5, 1, 2, 3, 4, 0};
        for (int what = 4; what <= 15; what++) {
            DUE.same("count " + what, x.count(what), wanted[what - 4]);
        }
        DUE.same("the fault stays", x.fault(0), 2);
        DUE.same("an empty one", x.empty(), 0);
    }

    // ---- clauses and trees

    private static void clauseOfAtItsEdges() {
        DUE.about("2: its greatest literal; 3 and 4: its parents, the one with the holding literal first");
        OrderedClauses x = told("-a a");
        DUE.same("run", x.run(2), 2);
        int[] wanted = {0, 0, MISSING, 1, 0, 0, 0, 0, 1};
        for (int what = 0; what <= 8; what++) {
            DUE.same("of the empty clause " + what, x.clauseOf(2, what), wanted[what]);
        }
        DUE.same("the least literal", x.clauseOf(1, 2), 0);
        OrderedClauses y = told("f -f");
        DUE.same("run", y.run(2), 2);
        DUE.same("the greatest literal", y.clauseOf(1, 2), 11);
        DUE.same("the greatest atom", y.clauseOf(2, 5), 5);
        DUE.same("the holding one", y.clauseOf(2, 3), 0);
        DUE.same("the other one", y.clauseOf(2, 4), 1);
        DUE.about("6: how many literals it has");
        DUE.same("six", told("a-bc-de-f").clauseOf(0, 6), 6);
        DUE.same("none", told("0").clauseOf(0, 6), 0);
    }

    private static void depths() {
        DUE.about("(0 if it was told, otherwise 1 more than the greater one of its parents')");
        OrderedClauses x = told("a -ab -bc -cd -de -ef -f");
        DUE.same("run", x.run(40) > 0 ? 1 : 0, 1);
        for (int clause = 0; clause < 7; clause++) {
            DUE.same("told", x.clauseOf(clause, 8), 0);
        }
        for (int clause = 7; clause < x.count(0); clause++) {
            int some = x.clauseOf(x.clauseOf(clause, 3), 8);
            int other = x.clauseOf(x.clauseOf(clause, 4), 8);
            DUE.same("depth of " + clause, x.clauseOf(clause, 8), 1 + Math.max(some, other));
        }
        DUE.same("the deepest", x.clauseOf(x.refutation(), 8), 6);
        DUE.about("numbers are never used again, but all are gone when the store is emptied.");
        x.empty();
        x.tell(bits("a"));
        x.tell(bits("b"));
        x.tell(bits("c"));
        x.tell(bits("d"));
        x.tell(bits("e"));
        x.tell(bits("f"));
        x.tell(bits("-a-b"));
        x.tell(bits("-c-d"));
        DUE.same("the number of a former resolvent, told now", x.clauseOf(7, 8), 0);
        DUE.same("without parents", x.clauseOf(7, 3), MISSING);
        DUE.same("its tree", x.tree(7), 128);
        DUE.same("it counts for models", x.models(), 0);
    }

    private static void treesAtTheirEdges() {
        DUE.about("Returns the set (bits 0 to 39)");
        OrderedClauses x = told(FORTY);
        for (int clause = 0; clause < 40; clause++) {
            DUE.same("tree of " + clause, x.tree(clause), 1L << clause);
        }
        OrderedClauses y = told(without(3, FORTY_WITH_A) + " -bf -b-f");
        y.rank(0, 5);
        y.rank(5, 4);
        DUE.same("run", y.run(2), 2);
        clauseIs(y, 39, "-b", 0);
        DUE.same("three of the greatest", y.tree(39), 7L << 37);
        DUE.same("a told one, dropped", y.tree(38), 1L << 38);
        OrderedClauses z = told("ac a-c");
        z.run(40);
        z.tell(bits("-a"));
        z.run(40);
        DUE.same("parents and theirs", z.tree(z.refutation()), 31);
        DUE.same("not its children", z.tree(2), 7);
        DUE.same("only itself", z.tree(3), 8);
    }

    private static void widestAtItsEdges() {
        DUE.about("the most literals that one of its clauses has.");
        DUE.same("six", told("abcdef").widest(0), 6);
        DUE.same("none", told("0").widest(0), 0);
        DUE.same("one that is dropped", told("abc 0").widest(0), 3);
        OrderedClauses x = told("abcdef abcde-f");
        DUE.same("run", x.run(2), 2);
        DUE.same("wider parents", x.widest(2), 6);
        OrderedClauses y = told("abf cd-f");
        DUE.same("run", y.run(2), 2);
        DUE.same("wider than its parents", y.widest(2), 4);
        OrderedClauses z = told(without(3, FORTY_WITH_A) + " -bf -b-f");
        z.rank(0, 5);
        z.rank(5, 4);
        DUE.same("run", z.run(2), 2);
        DUE.same("of the last ones alone", z.widest(39), 2);
    }

    private static void refutationAtItsEdges() {
        DUE.about("Returns the clause of the store that is empty.");
        DUE.same("the first number", told("0").refutation(), 0);
        DUE.same("the last number", told(without(1, FORTY) + " 0").refutation(), 39);
        OrderedClauses x = told("a -a");
        x.run(2);
        DUE.same("a resolvent", x.refutation(), 2);
        x.undo();
        DUE.same("undone", x.refutation(), MISSING);
        x.tell(0);
        x.empty();
        DUE.same("emptied", x.refutation(), MISSING);
    }

    // ---- values

    private static void modelsAtTheirEdges() {
        DUE.about("Counts the values of all atoms (64 in all)");
        DUE.same("all", new OrderedClauses().models(), 64);
        DUE.same("all but one", told("abcdef").models(), 63);
        DUE.same("one", told("-a b -c d -e f").models(), 1);
        DUE.same("none", told("a -a").models(), 0);
        DUE.same("only 0", told("-a -b -c -d -e -f").models(), 1);
        DUE.same("not even 0", told("-a -b -c -d -e -f abcdef").models(), 0);
        DUE.same("not even 63", told("a b c d e f -a-b-c-d-e-f").models(), 0);
        DUE.about("0 for the least, and so on; values are told as bits, bit k for the atom k");
        DUE.same("the least but 0", told("abcdef").model(0), 1);
        DUE.same("the last", told("abcdef").model(62), 63);
        DUE.same("the greatest but 63", told("-a-b-c-d-e-f").model(62), 62);
        DUE.same("no more", told("-a-b-c-d-e-f").model(63), MISSING);
        DUE.same("the only one", told("-a b -c d -e f").model(0), 42);
        DUE.same("with f alone", told("f").model(0), 32);
        DUE.same("without f", told("-f").model(31), 31);
    }

    private static void brokenAtItsEdges() {
        DUE.about("Tells which clauses of the store that are not dropped are not fulfilled by values.");
        OrderedClauses x = told("abcdef -a-b-c-d-e-f");
        DUE.same("by 0", x.broken(0), 1);
        DUE.same("by 1", x.broken(1), 0);
        DUE.same("by 62", x.broken(62), 0);
        DUE.same("by 63", x.broken(63), 2);
        OrderedClauses y = told("a b c d e f ");
        DUE.same("all", y.broken(0), 63);
        OrderedClauses z = told("ac a-c");
        DUE.same("open ones", z.broken(0), 1);
        z.step();
        DUE.same("done ones", z.broken(0), 1);
        z.step();
        DUE.same("the resolvent instead of the dropped", z.broken(0), 4);
        OrderedClauses forty = told(without(2, FORTY) + " def");
        DUE.same("the fortieth", forty.tell(bits("de-f")), 39);
        DUE.same("it alone of its kind", forty.broken(32) >> 38, 2);
    }

    private static void coreAtItsEdges() {
        DUE.about("each one, from the lowest number on, is left out for good if the others that are left still cannot"
            + " be fulfilled together.");
        DUE.same("one", told("0").core(), 1);
        DUE.same("the last alone", told("a -a 0").core(), 4);
        DUE.same("of three pairs the last", told("a -a b -b c -c").core(), 48);
        DUE.same("the lowest out", told("ab a -a").core(), 6);
        OrderedClauses x = told("ab a-b -ab -a-b");
        DUE.same("all are needed", x.core(), 15);
        DUE.same("one that serves instead", x.tell(bits("a")), 4);
        DUE.same("leaves the lowest out", x.core(), 4 | 8 | 16);
        DUE.same("with number 39", told(without(2, FORTY_WITH_A) + " -a 0").core(), 1L << 39);
        DUE.same("with 38 and 39", told(without(2, FORTY_WITH_A) + " -a a").core(), 3L << 38);
    }

    private static void followsAtItsEdges() {
        DUE.about("whether all values that fulfil these fulfil it.");
        OrderedClauses x = new OrderedClauses();
        DUE.same("the least", x.follows(0), 0);
        DUE.same("the greatest", x.follows(4095), 1);
        DUE.same("both of the first atom", x.follows(3), 1);
        DUE.same("both of the last atom", x.follows(3072), 1);
        DUE.same("63 of 64", x.follows(1365), 0);
        OrderedClauses y = told("-a b -c d -e f");
        DUE.same("of one model", y.follows(1 << 10), 1);
        DUE.same("not the other way", y.follows(1 << 11), 0);
        DUE.same("not the empty clause", y.follows(0), 0);
        DUE.same("from none", told("0").follows(0), 1);
        DUE.same("from a dropped one", told("abf ab").follows(bits("abf")), 1);
        OrderedClauses z = told("abcdef");
        DUE.same("itself", z.follows(bits("abcdef")), 1);
        DUE.same("one literal less", z.follows(bits("abcde")), 0);
    }

    private static void sharesAtTheirEdges() {
        DUE.about("how many of the 64 do, as a float, divided by 64.");
        OrderedClauses x = told("0");
        DUE.same("none", x.share(0), Float.floatToIntBits(0f));
        String clause = "";
        int[] fulfilled = {0, 32, 48, 56, 60, 62, 63};
        for (int size = 0; size <= 6; size++) {
            DUE.same(size + " that hold", x.share(bits(clause)), Float.floatToIntBits(fulfilled[size] / 64f));
            DUE.same(size + " that do not", x.share(bits(clause) << 1), Float.floatToIntBits(fulfilled[size] / 64f));
            clause = clause + (char) ('a' + size);
        }
        for (int atom = 0; atom < 6; atom++) {
            DUE.same("both", x.share(3 << (2 * atom)), Float.floatToIntBits(1f));
        }
        DUE.same("all literals", x.share(4095), Float.floatToIntBits(1f));
    }

    private static void countsAtTheirEdges() {
        DUE.about("10 plus an atom: its rank");
        OrderedClauses x = new OrderedClauses();
        x.rank(0, 5);
        DUE.same("the first atom", x.count(10), 5);
        DUE.same("the last atom", x.count(15), 0);
        DUE.about("6: clauses (told or resolvents) that held always, so far");
        OrderedClauses y = told("ab -a-b");
        y.tell(bits("c-c"));
        y.run(2);
        DUE.same("told and a resolvent", y.count(6), 2);
        DUE.same("none within", y.count(7), 0);
        DUE.about("7: clauses (likewise) that did not come because another one was within them, so far");
        OrderedClauses z = told("ac b-c ab");
        z.tell(bits("ab"));
        z.run(3);
        DUE.same("told and a resolvent", z.count(7), 2);
        DUE.same("none held always", z.count(6), 0);
        DUE.same("none came", z.count(0), 3);
    }

    // ---- changes

    private static void changesThatChangeNothing() {
        DUE.about("The changes are the calls of tell, rank, set, step, run, empty and play that return no error.");
        oneState("tell that comes", OrderedClauses::new, x -> x.tell(1), 0);
        oneState("tell of what holds always", OrderedClauses::new, x -> x.tell(3), -1);
        oneState("rank", OrderedClauses::new, x -> x.rank(0, 1), 0);
        oneState("rank with its own", OrderedClauses::new, x -> x.rank(0, 0), 0);
        oneState("set", OrderedClauses::new, x -> x.set(5), 4);
        oneState("set to what it was", OrderedClauses::new, x -> x.set(4), 4);
        oneState("run without steps", OrderedClauses::new, x -> x.run(1), 0);
        oneState("empty of an empty store", OrderedClauses::new, OrderedClauses::empty, 0);
        oneState("play of an empty text", OrderedClauses::new, OrderedClauses::play, 0);
        Whole.Maker one = () -> told("a");
        oneState("tell of the same", one, x -> x.tell(1), -2);
        oneState("step", one, OrderedClauses::step, 0);
        oneState("run", one, x -> x.run(40), 1);
        oneState("empty", one, OrderedClauses::empty, 1);
        oneState("play of what does not come", () -> typed(told("a"), "a;a-a;"), OrderedClauses::play, 0);
    }

    private static void oneState(String name, Whole.Maker maker, Whole.Call call, int wanted) {
        OrderedClauses x = maker.make();
        int states = x.count(8);
        DUE.same(name, call.on(x), wanted);
        DUE.same("one state more behind " + name, x.count(8), states + 1);
        DUE.same("undo of " + name, x.undo(), states);
        DUE.holds("restored behind " + name, Whole.of(maker).equals(Whole.of(() -> {
            OrderedClauses y = maker.make();
            call.on(y);
            y.undo();
            return y;
        })));
    }

    private static void noChanges() {
        DUE.about("The changes are the calls of tell, rank, set, step, run, empty and play that return no error.");
        OrderedClauses x = told("a -a");
        Call[] questions = {
            y -> y.clauseOf(0, 0), y -> y.tree(0), y -> y.widest(0), OrderedClauses::refutation, OrderedClauses::models,
            y -> y.model(0), y -> y.broken(0), OrderedClauses::core, y -> y.follows(0), y -> y.share(0),
            y -> y.count(0), y -> y.type('?'), y -> y.fault(0), OrderedClauses::play, OrderedClauses::clearText,
            y -> y.tell(-1), y -> y.rank(0, 6), y -> y.set(0), y -> y.run(0)
        };
        for (Call question : questions) {
            question.on(x);
            DUE.same("states", x.count(8), 2);
        }
    }

    private static void fourStatesAndTheFifth() {
        DUE.about("and if there are 5 states then, the oldest one is dropped.");
        for (int changes = 0; changes <= 11; changes++) {
            OrderedClauses x = new OrderedClauses();
            for (int i = 1; i <= changes; i++) {
                x.set(i % 9 + 1);
                DUE.same("states", x.count(8), Math.min(i, 4));
            }
            int states = Math.min(changes, 4);
            for (int i = 1; i <= states; i++) {
                DUE.same("states left", x.undo(), states - i);
                DUE.same("setting", x.count(5), changes == i ? 4 : (changes - i) % 9 + 1);
            }
            DUE.same("no more", x.undo(), IMPOSSIBLE);
            DUE.same("states", x.count(8), 0);
        }
        DUE.about("Restores the latest state of the history, which is removed from it.");
        OrderedClauses x = told("a b c d e");
        DUE.same("undo", x.undo(), 3);
        DUE.same("another one", x.tell(bits("f")), 4);
        DUE.same("states", x.count(8), 4);
        for (int left = 3; left >= 0; left--) {
            DUE.same("undo", x.undo(), left);
        }
        DUE.same("the first one is left", x.count(0), 1);
        clauseIs(x, 0, "a", 0);
    }

    private static void undoRestoresAllButTheText() {
        DUE.about("each change records everything before it but the text");
        OrderedClauses x = typed(told("a"), "b;b-b;ab;");
        DUE.same("play", x.play(), 1);
        x.type(';');
        DUE.same("undo", x.undo(), 1);
        DUE.same("the text stays", x.count(9), 10);
        DUE.same("clauses", x.count(0), 1);
        DUE.same("held always", x.count(6), 0);
        DUE.same("another within", x.count(7), 0);
        x.clearText();
        DUE.same("undo", x.undo(), 0);
        DUE.same("the text is still empty", x.count(9), 0);
        OrderedClauses y = told("a b");
        y.run(1);
        y.rank(0, 3);
        y.set(9);
        y.empty();
        DUE.same("undo of empty", y.undo(), 3);
        counted(y, 2, 2, 0, 0);
        DUE.same("steps", y.count(4), 1);
        DUE.same("undo of set", y.undo(), 2);
        DUE.same("setting", y.count(5), 4);
        DUE.same("undo of rank", y.undo(), 1);
        DUE.same("ranks", y.count(10) * 10 + y.count(13), 3);
        status(y, "10");
        DUE.same("undo of run", y.undo(), 0);
        DUE.same("steps", y.count(4), 0);
        status(y, "00");
    }

    private static void undoRestoresNumbersUsedAgain() {
        DUE.about("Restores the latest state of the history, which is removed from it.");
        Whole.Maker before = () -> {
            OrderedClauses x = typed(new OrderedClauses(), "ab-c;-ac;c-d;abd;e;ef;");
            DUE.same("play", x.play(), 5);
            DUE.same("run", x.run(40), 7);
            return typed(x, "f-e;-fe;-ed;-dc;-cb;-ba;ab;bc;cd;de;ef;-b-d;-a-f;-c-e;ac;ce;");
        };
        DUE.holds("resolvents", before.make().count(0) > 5);
        DUE.holds("the same", Whole.of(before).equals(Whole.of(() -> {
            OrderedClauses x = before.make();
            x.empty();
            DUE.holds("more than there were", x.play() >= before.make().count(0));
            DUE.same("undo", x.undo(), 3);
            DUE.same("undo", x.undo(), 2);
            return x;
        })));
    }

    // ---- texts

    private static void nothingIsLeftOfTheText() {
        DUE.about("Empties the text.");
        OrderedClauses x = typed(new OrderedClauses(), "a;;?");
        DUE.same("fault", x.fault(0), 3);
        DUE.same("clear", x.clearText(), 4);
        DUE.same("no fault", x.fault(0), MISSING);
        DUE.same("none to play", x.play(), 0);
        typed(x, "b");
        DUE.same("the former end does not end it", x.fault(1), 1);
        x.type(';');
        DUE.same("no former fault", x.fault(0), MISSING);
        DUE.same("play", x.play(), 1);
        clauseIs(x, 0, "b", 0);
        DUE.same("no former clause", x.refutation(), MISSING);
    }

    private static void sixtyCharacters() {
        DUE.about("There is a text of at most 60 characters, initially empty");
        OrderedClauses x = new OrderedClauses();
        DUE.same("empty", x.clearText(), 0);
        for (int i = 1; i <= 60; i++) {
            DUE.same("type", x.type(i % 2 == 0 ? 126 : 32), i);
            DUE.same("length", x.count(9), i);
        }
        DUE.same("the 61st", x.type(126), LIMIT);
        DUE.same("length", x.count(9), 60);
        DUE.same("the length it had", x.clearText(), 60);
        DUE.same("empty", x.count(9), 0);
        DUE.same("the first one again", x.type(126), 1);
        DUE.same("the length it had", x.clearText(), 1);
        DUE.same("empty", x.clearText(), 0);
    }

    private static void faultIs(String text, int position, int cause) {
        OrderedClauses x = typed(new OrderedClauses(), text);
        DUE.same("position in " + text, x.fault(0), position);
        DUE.same("cause in " + text, x.fault(1), cause);
    }

    private static void eachCharacter() {
        DUE.about("literals (perhaps none), each a letter a to f, with \"-\" ahead of it if it does not hold");
        for (int c = 32; c <= 126; c++) {
            char character = (char) c;
            boolean isLetter = "abcdef".indexOf(c) >= 0;
            boolean isEnd = character == ';';
            boolean mayStart = isLetter || character == '-';
            String text = String.valueOf(character);
            faultIs(text, isEnd ? MISSING : 0, isEnd ? MISSING : mayStart ? 1 : 0);
            faultIs("a" + text, isEnd ? MISSING : 0, isEnd ? MISSING : mayStart ? 2 : 1);
            faultIs("-" + text, 0, isLetter ? 2 : 1);
            faultIs(";" + text + ";", isEnd || isLetter ? MISSING : 1, isEnd || isLetter ? MISSING : mayStart ? 1 : 0);
            faultIs("-" + text + ";", isLetter ? MISSING : 0, isLetter ? MISSING : 1);
        }
    }

    private static void eachPlaceOfAFault() {
        String sixty = "a-bc;".repeat(12);
        DUE.about("The fault of the text is the position, from 0, of the first character of the first clause that is"
            + " not of this form, its \";\" included");
        for (int at = 0; at < 60; at++) {
            faultIs(sixty.substring(0, at) + "?" + sixty.substring(at + 1), at / 5 * 5, at % 5);
        }
        DUE.about("(of one that the text ends too early it is its length)");
        for (int length = 0; length <= 60; length++) {
            boolean ends = length % 5 == 0;
            faultIs(sixty.substring(0, length), ends ? MISSING : length / 5 * 5, ends ? MISSING : length % 5);
        }
        faultIs(";".repeat(59) + "a", 59, 1);
        faultIs(";".repeat(59) + "?", 59, 0);
        faultIs(";".repeat(59) + "-", 59, 1);
        faultIs("a".repeat(60), 0, 60);
        faultIs("a".repeat(59) + "-", 0, 60);
        faultIs("a".repeat(59) + "?", 0, 59);
        faultIs("-a".repeat(30), 0, 60);
        faultIs("a".repeat(58) + "-;", 0, 59);
        faultIs("a".repeat(59) + ";", MISSING, MISSING);
        faultIs(";".repeat(60), MISSING, MISSING);
    }

    private static void firstFaultOfSeveral() {
        DUE.about("its cause is at which character of the clause, from 0, it breaks off");
        faultIs("a;?;?;", 2, 0);
        faultIs("a?;b;--;", 0, 1);
        faultIs("ab-?;-", 0, 3);
        faultIs("a??", 0, 1);
        faultIs("a;b?;c", 2, 1);
        OrderedClauses x = typed(new OrderedClauses(), "a;-");
        DUE.same("too early", x.fault(1), 1);
        x.type('b');
        DUE.same("still too early", x.fault(1), 2);
        x.type(';');
        DUE.same("no more", x.fault(1), MISSING);
        x.type(' ');
        DUE.same("then another one", x.fault(0), 5);
        x.type(';');
        DUE.same("which stays", x.fault(0), 5);
    }

    private static void playAtItsEdges() {
        DUE.about("the same one may come again");
        OrderedClauses x = typed(new OrderedClauses(), "-a-aba;-f-f;bb;");
        DUE.same("play", x.play(), 2);
        clauseIs(x, 0, "-f", 0);
        clauseIs(x, 1, "b", 0);
        DUE.same("with both literals it holds always", x.count(6), 1);
        DUE.about("literals (perhaps none)");
        OrderedClauses y = typed(new OrderedClauses(), ";");
        DUE.same("the empty clause", y.play(), 1);
        DUE.same("came", y.refutation(), 0);
        OrderedClauses z = typed(new OrderedClauses(), ";".repeat(60));
        DUE.same("sixty of them", z.play(), 1);
        DUE.same("59 had another within", z.count(7), 59);
        OrderedClauses v = typed(new OrderedClauses(), "abcdef;" + "a".repeat(52) + ";");
        DUE.same("sixty characters", v.play(), 2);
        clauseIs(v, 0, "abcdef", 2);
        clauseIs(v, 1, "a", 0);
        DUE.about("Tells all clauses of the text, one after another; it stays.");
        OrderedClauses w = typed(new OrderedClauses(), "a;b;");
        DUE.same("play", w.play(), 2);
        DUE.same("the text stays", w.count(9), 4);
        DUE.same("play again", w.play(), 0);
        DUE.same("both had another within", w.count(7), 2);
        DUE.same("none held always", w.count(6), 0);
        DUE.same("they were told", w.clauseOf(1, 3), MISSING);
        DUE.same("models", w.models(), 16);
    }

    private static void playOfForty() {
        DUE.about("Returns how many of them came");
        OrderedClauses x = typed(told(FORTY), "a-a;abc;-a-c-d;abcdef;");
        DUE.same("none comes to a full store", x.play(), 0);
        DUE.same("held always", x.count(6), 1);
        DUE.same("another within", x.count(7), 3);
        DUE.same("clauses", x.count(0), 40);
        OrderedClauses y = typed(told(THIRTY_NINE), "abc;a-a;;abf;b-b;;");
        DUE.same("the fortieth is the empty one", y.play(), 1);
        DUE.same("it came", y.refutation(), 39);
        DUE.same("another within", y.count(7), 3);
        OrderedClauses z = typed(new OrderedClauses(), "a;b;c;d;e;f;-a;-b;-c;-d;-e;-f;ab;");
        DUE.same("twelve of thirteen", z.play(), 12);
        DUE.same("the last number", z.clauseOf(11, 0), bits("-f"));
    }

    private static void playIsOneChange() {
        DUE.about("They are one change, also if there are none.");
        OrderedClauses x = new OrderedClauses();
        DUE.same("none", x.play(), 0);
        DUE.same("one change", x.count(8), 1);
        typed(x, "a;b;c;d;e;f;");
        DUE.same("six", x.play(), 6);
        DUE.same("another one", x.count(8), 2);
        DUE.same("undo of all six", x.undo(), 1);
        DUE.same("no clause", x.count(0), 0);
        DUE.same("undo of none", x.undo(), 0);
        DUE.same("undo", x.undo(), IMPOSSIBLE);
    }
}
