import java.util.List;

/** Each promise of the document by itself: ordinary arguments, the edges that it names, and wrong ones. */
public final class PromisesTest extends Bench {
    public static void main(String[] args) {
        newObject();
        tell();
        tellToFullStore();
        rank();
        set();
        stepChoice();
        stepResolvents();
        stepGoesOn();
        settingthStepsFarOn();
        stepEnds();
        stepErrors();
        run();
        empty();
        clauseOf();
        clauseOfLess();
        clauseOfDropped();
        clauseOfKeepsParents();
        depthOfTwoResolvents();
        tree();
        widest();
        refutation();
        models();
        model();
        broken();
        core();
        follows();
        share();
        count();
        undo();
        undoOfEach();
        history();
        type();
        clearText();
        fault();
        play();
        playErrors();
        DUE.close("PromisesTest");
    }

    private interface Call {
        long answer();
    }

    private static long counts(OrderedClauses x) {
        long sum = 0;
        for (int what = 0; what < 16; what++) {
            sum = 31 * sum + x.count(what);
        }
        return sum;
    }

    /** That nothing but the counts changes either stands in RefusalsTest. */
    private static void refused(OrderedClauses x, String what, Call call, int error) {
        long before = counts(x);
        DUE.same(what, call.answer(), error);
        DUE.same("counts behind " + what, counts(x), before);
    }

    private static void newObject() {
        OrderedClauses x = new OrderedClauses();
        for (int what = 0; what <= 9; what++) {
            DUE.same("count of a new one " + what, x.count(what), what == 5 ? 4 : 0);
        }
        for (int atom = 0; atom < 6; atom++) {
            DUE.same("rank at first of " + atom, x.count(10 + atom), atom);
        }
        DUE.same("models of a new one", x.models(), 64);
        DUE.same("core of a new one", x.core(), MISSING);
        DUE.same("refutation of a new one", x.refutation(), MISSING);
        DUE.same("no clause", x.clauseOf(0, 0), INVALID);
        DUE.same("undo of a new one", x.undo(), IMPOSSIBLE);
        DUE.same("fault of a new one", x.fault(0), MISSING);
        OrderedClauses other = new OrderedClauses();
        x.tell(1);
        DUE.same("objects share nothing", other.count(0), 0);
    }

    private static void tell() {
        OrderedClauses x = told("ab bc");
        DUE.same("the same one", x.tell(bits("ab")), -2);
        DUE.same("a wider one", x.tell(bits("a-cb")), -2);
        DUE.same("holds always", x.tell(bits("a-a")), -1);
        DUE.same("all literals", x.tell(4095), -1);
        DUE.same("always is ahead of within", x.tell(bits("abf-f")), -1);
        DUE.same("held always", x.count(6), 3);
        DUE.same("within", x.count(7), 2);
        DUE.same("refusals by 1 and 2 are changes", x.count(8), 4);
        DUE.same("one that drops two", x.tell(bits("b")), 2);
        clauseIs(x, 0, "ab", 2);
        clauseIs(x, 1, "bc", 2);
        clauseIs(x, 2, "b", 0);
        DUE.same("overlapping is not within", x.tell(bits("a-c")), 3);
        DUE.same("dropped", x.count(3), 2);
        DUE.same("the empty clause", x.tell(0), 4);
        DUE.same("all others dropped", x.count(3), 4);
        DUE.same("behind the empty clause", x.tell(bits("f")), -2);
        DUE.same("the empty clause again", x.tell(0), -2);
        for (int wrong : new int[] {-1, 4096, LEAST, GREATEST}) {
            refused(x, "tell " + wrong, () -> x.tell(wrong), INVALID);
        }
    }

    private static void tellToFullStore() {
        OrderedClauses x = told(FORTY);
        DUE.same("full", x.count(0), 40);
        refused(x, "tell to a full store", () -> x.tell(bits("def")), LIMIT);
        refused(x, "tell one that would drop", () -> x.tell(bits("ab")), LIMIT);
        refused(x, "tell the empty clause", () -> x.tell(0), LIMIT);
        refused(x, "a wrong one to a full store", () -> x.tell(4096), INVALID);
        DUE.same("the same one, full", x.tell(bits("abc")), -2);
        DUE.same("one that holds always, full", x.tell(bits("f-f")), -1);
        DUE.same("undo", x.undo(), 3);
        DUE.same("undo", x.undo(), 2);
        DUE.same("undo the fortieth", x.undo(), 1);
        DUE.same("the fortieth", x.tell(bits("def")), 39);
        DUE.same("then full", x.tell(bits("de-f")), LIMIT);
    }

    private static void rank() {
        OrderedClauses x = told("ab c -a");
        DUE.same("run", x.run(40), 3);
        DUE.same("all done", x.count(2), 3);
        x.tell(bits("cd"));
        x.rank(0, 3);
        DUE.same("undo of rank", x.undo(), 3);
        DUE.same("ranks are restored", x.count(10) * 10 + x.count(13), 3);
        DUE.same("done ones are restored", x.count(2), 3);
        DUE.same("greatest of ab", x.clauseOf(0, 2), 2);
        DUE.same("rank", x.rank(0, 4), 0);
        DUE.same("a has it", x.count(10), 4);
        DUE.same("e has the former one", x.count(14), 0);
        DUE.same("others keep theirs", x.count(11) * 10 + x.count(15), 15);
        DUE.same("greatest of ab now", x.clauseOf(0, 2), 0);
        DUE.same("all open again", x.count(1), 3);
        DUE.same("the rank that it had", x.rank(4, 5), 0);
        DUE.same("f has the former one", x.count(15), 0);
        x.run(40);
        DUE.same("the same rank", x.rank(0, 4), 4);
        DUE.same("also opens", x.count(2), 0);
        OrderedClauses y = told("ab a");
        DUE.same("dropped", y.clauseOf(0, 1), 2);
        y.step();
        y.rank(5, 0);
        DUE.same("dropped ones stay", y.clauseOf(0, 1), 2);
        DUE.same("steps stay", y.count(4), 1);
        for (int wrong : new int[] {-1, 6, LEAST, GREATEST}) {
            refused(x, "rank of atom " + wrong, () -> x.rank(wrong, 0), INVALID);
            refused(x, "rank " + wrong, () -> x.rank(0, wrong), INVALID);
        }
        DUE.same("the last atom and rank", x.rank(5, 5), 0);
    }

    private static void set() {
        OrderedClauses x = new OrderedClauses();
        DUE.same("the first value", x.set(1), 4);
        DUE.same("the least", x.set(9), 1);
        DUE.same("the greatest", x.set(9), 9);
        DUE.same("setting", x.count(5), 9);
        DUE.same("changes", x.count(8), 3);
        for (int wrong : new int[] {0, 10, -1, LEAST, GREATEST}) {
            refused(x, "set " + wrong, () -> x.set(wrong), INVALID);
        }
    }

    private static void stepChoice() {
        chosenWith(1, "01234");
        chosenWith(2, "10234");
        chosenWith(3, "12034");
        chosenWith(4, "12304");
        chosenWith(5, "12340");
        chosenWith(9, "12340");
        OrderedClauses x = told("abc de df");
        x.set(2);
        DUE.same("step", x.step(), 1);
        x.empty();
        DUE.same("steps from 0 again", x.count(4), 0);
        x.tell(bits("abc"));
        x.tell(bits("de"));
        DUE.same("the first step again", x.step(), 1);
    }

    private static void chosenWith(int setting, String numbers) {
        OrderedClauses x = told("abc de df ef cf");
        x.set(setting);
        for (int i = 0; i < numbers.length(); i++) {
            DUE.same("step " + (i + 1) + " with setting " + setting, x.step(), numbers.charAt(i) - '0');
            DUE.same("steps", x.count(4), i + 1);
        }
        DUE.same("none is open", x.step(), IMPOSSIBLE);
        DUE.same("no resolvents", x.count(0), 5);
    }

    private static void stepResolvents() {
        OrderedClauses x = told("a-bc bc");
        DUE.same("the shorter one", x.step(), 1);
        DUE.same("the other one", x.step(), 0);
        x.tell(bits("-c"));
        DUE.same("the third one", x.step(), 2);
        clauseIs(x, 3, "a-b", 0);
        clauseIs(x, 4, "b", 0);
        DUE.same("parents", x.clauseOf(3, 3) * 10 + x.clauseOf(3, 4), 2);
        DUE.same("parents", x.clauseOf(4, 3) * 10 + x.clauseOf(4, 4), 12);
        clauseIs(x, 0, "a-bc", 2);
        clauseIs(x, 1, "bc", 2);
        OrderedClauses y = told("a-b bc -bc");
        y.run(3);
        DUE.same("only greatest literals", y.count(0), 3);
        OrderedClauses z = told("abc -a-c -bc");
        z.run(4);
        DUE.same("one held always", z.count(6), 1);
        clauseIs(z, 3, "-a-b", 1);
        DUE.same("but one came", z.count(0), 4);
        OrderedClauses v = told("ac b-c ab");
        v.run(3);
        DUE.same("one had another within", v.count(7), 1);
        DUE.same("and none came", v.count(0), 3);
        OrderedClauses w = told("b -bc -b-c");
        w.rank(1, 5);
        w.run(2);
        clauseIs(w, 3, "c", 0);
        DUE.same("made by b, by its new rank", w.clauseOf(3, 5), 1);
        DUE.same("the dropped one is no partner", w.clauseOf(1, 1), 2);
    }

    private static void stepGoesOn() {
        OrderedClauses x = told("-af cf df ef bc ab-f");
        x.set(1);
        DUE.same("ahead of it", x.run(5), 5);
        DUE.same("no resolvents so far", x.count(0) + x.count(6) + x.count(7), 6);
        DUE.same("four partners", x.step(), 5);
        DUE.same("the first resolvent holds always", x.count(6), 1);
        DUE.same("the second one has another within", x.count(7), 1);
        clauseIs(x, 6, "abd", 0);
        clauseIs(x, 7, "abe", 0);
        DUE.same("no more", x.count(0), 8);
    }

    private static void settingthStepsFarOn() {
        OrderedClauses x = told("abc de");
        x.set(9);
        for (int steps = 0; steps < 200; steps += 2) {
            int first = steps % 9 == 8 ? 0 : 1;
            DUE.same("step " + (steps + 1), x.step(), first);
            DUE.same("step " + (steps + 2), x.step(), 1 - first);
            DUE.same("both are open again", x.rank(5, 5), 5);
        }
    }

    private static void stepEnds() {
        OrderedClauses x = told("ac bc");
        x.run(2);
        x.tell(bits("a-c"));
        DUE.same("step", x.step(), 2);
        clauseIs(x, 3, "a", 0);
        DUE.same("the chosen one is dropped", x.clauseOf(2, 1), 2);
        DUE.same("and resolved no more", x.count(7), 0);
        DUE.same("only one came", x.count(0), 4);
        OrderedClauses y = told("a -a bc");
        y.step();
        DUE.same("step", y.step(), 1);
        clauseIs(y, 3, "", 0);
        DUE.same("all others dropped", y.count(3), 3);
        DUE.same("no step behind the empty clause", y.step(), IMPOSSIBLE);
    }

    private static void stepErrors() {
        OrderedClauses x = new OrderedClauses();
        refused(x, "step of an empty store", x::step, IMPOSSIBLE);
        x.tell(bits("a"));
        DUE.same("step", x.step(), 0);
        refused(x, "step without open ones", x::step, IMPOSSIBLE);
        x.tell(0);
        refused(x, "step with the empty clause", x::step, IMPOSSIBLE);
        OrderedClauses full = told(FORTY);
        DUE.same("a step of a full store", full.step(), 0);
        DUE.same("another one", full.step(), 1);
        refused(full, "one would come to a full store", full::step, LIMIT);
        DUE.same("what held always on the way is not counted", full.count(6), 0);
        OrderedClauses still = told("abc" + FORTY.substring("abc -a-bc -a-b-c".length()) + " cd cef");
        still.step();
        DUE.same("full without a limit", still.count(0), 40);
        DUE.same("a change", still.count(8), 4);
    }

    private static void run() {
        OrderedClauses x = told("a -ab -bc -cd");
        DUE.same("one", x.run(1), 1);
        DUE.same("steps", x.count(4), 1);
        DUE.same("the others", x.run(40), 3);
        DUE.same("no more", x.run(40), 0);
        DUE.same("also a change", x.count(8), 4);
        x.tell(bits("-d"));
        DUE.same("to the empty clause", x.run(40), 4);
        DUE.same("refuted", x.refutation(), 8);
        DUE.same("none behind it", x.run(5), 0);
        DUE.same("as many as at most", told("a b c d e f").run(4), 4);
        for (int wrong : new int[] {0, 41, -1, LEAST, GREATEST}) {
            refused(x, "run " + wrong, () -> x.run(wrong), INVALID);
        }
        OrderedClauses full = told(FORTY);
        refused(full, "run of a full store", () -> full.run(40), LIMIT);
        refused(full, "run to the step that would have it", () -> full.run(3), LIMIT);
        DUE.same("run up to it", full.run(2), 2);
        refused(full, "run of one more", () -> full.run(1), LIMIT);
        DUE.same("undo of a run", full.undo(), 3);
        DUE.same("undoes both", full.count(4), 0);
    }

    private static void empty() {
        OrderedClauses x = told("ab c -d");
        x.tell(bits("a-a"));
        x.tell(bits("cd"));
        x.set(7);
        x.rank(0, 5);
        x.run(40);
        typed(x, "a;");
        DUE.same("how many there were", x.empty(), 3);
        for (int what = 0; what <= 4; what++) {
            DUE.same("count behind empty " + what, x.count(what), 0);
        }
        DUE.same("setting stays", x.count(5), 7);
        DUE.same("held always stays", x.count(6), 1);
        DUE.same("within stays", x.count(7), 1);
        DUE.same("ranks stay", x.count(10) * 10 + x.count(15), 50);
        DUE.same("the text stays", x.count(9), 2);
        DUE.same("no clause", x.clauseOf(0, 0), INVALID);
        DUE.same("models", x.models(), 64);
        DUE.same("none there", x.empty(), 0);
        DUE.same("numbered from 0", x.tell(1), 0);
        x.undo();
        x.undo();
        DUE.same("undo", x.undo(), 1);
        DUE.same("all is there again", x.count(0) * 100 + x.count(2) * 10 + x.count(4), 333);
        x.tell(0);
        x.empty();
        DUE.same("the empty clause is gone", x.refutation(), MISSING);
    }

    private static void clauseOf() {
        OrderedClauses x = told("b-c ac -d");
        x.run(40);
        int[][] wanted = {
            {bits("b-c"), 1, 5, MISSING, MISSING, MISSING, 2, 2, 0},
            {bits("ac"), 1, 4, MISSING, MISSING, MISSING, 2, 1, 0},
            {bits("-d"), 1, 7, MISSING, MISSING, MISSING, 1, 3, 0},
            {bits("ab"), 1, 2, 1, 0, 2, 2, 0, 1},
        };
        DUE.same("clauses", x.count(0), wanted.length);
        for (int clause = 0; clause < wanted.length; clause++) {
            for (int what = 0; what <= 8; what++) {
                DUE.same("clauseOf(" + clause + ", " + what + ")", x.clauseOf(clause, what), wanted[clause][what]);
            }
        }
        x.tell(bits("-b"));
        x.run(40);
        clauseIs(x, 5, "a", 1);
        DUE.same("the holding one first", x.clauseOf(5, 3) * 10 + x.clauseOf(5, 4), 34);
        DUE.same("by b", x.clauseOf(5, 5), 1);
        DUE.same("depth", x.clauseOf(5, 8), 2);
        DUE.same("open", told("a").clauseOf(0, 1), 0);
        DUE.same("greatest of a", told("a").clauseOf(0, 2), 0);
        OrderedClauses y = new OrderedClauses();
        y.tell(0);
        DUE.same("greatest of the empty clause", y.clauseOf(0, 2), MISSING);
        DUE.same("its literals", y.clauseOf(0, 6), 0);
        DUE.same("its depth", y.clauseOf(0, 8), 0);
        for (int wrong : new int[] {-1, 6, 40, LEAST, GREATEST}) {
            refused(x, "clauseOf of " + wrong, () -> x.clauseOf(wrong, 0), INVALID);
        }
        for (int wrong : new int[] {-1, 9, LEAST, GREATEST}) {
            refused(x, "clauseOf what " + wrong, () -> x.clauseOf(0, wrong), INVALID);
            refused(x, "clauseOf both wrong " + wrong, () -> x.clauseOf(99, wrong), INVALID);
        }
        DUE.same("the last of 40", told(FORTY).clauseOf(39, 0), bits("-a-c-d"));
    }

    private static void clauseOfLess() {
        OrderedClauses x = told("f abcde -f");
        DUE.same("less than f", x.clauseOf(0, 7), 1);
        DUE.same("less than abcde", x.clauseOf(1, 7), 0);
        DUE.same("less than -f", x.clauseOf(2, 7), 2);
        x.rank(5, 0);
        DUE.same("less than f, by new ranks", x.clauseOf(0, 7), 0);
        DUE.same("less than abcde, by new ranks", x.clauseOf(1, 7), 2);
        DUE.same("less than -f, by new ranks", x.clauseOf(2, 7), 1);
        x.tell(bits("bc"));
        DUE.same("dropped ones do not count", x.clauseOf(0, 7) * 10 + x.clauseOf(2, 7), 1);
        DUE.same("but are told of", x.clauseOf(1, 7), 3);
        DUE.same("a part is less", x.clauseOf(3, 7), 2);
        OrderedClauses y = told("bf -af ef");
        DUE.same("the shared one does not matter", y.clauseOf(0, 7) * 100 + y.clauseOf(1, 7) * 10 + y.clauseOf(2, 7), 102);
    }

    private static void clauseOfDropped() {
        OrderedClauses x = told("ac b-c");
        x.run(2);
        DUE.same("one that drops the resolvent", x.tell(bits("a")), 3);
        int[] wanted = {bits("ab"), 2, 2, 0, 1, 2, 2, 1, 1};
        for (int what = 0; what <= 8; what++) {
            DUE.same("of a dropped one " + what, x.clauseOf(2, what), wanted[what]);
        }
        DUE.same("its tree", x.tree(2), 7);
        DUE.same("widest", x.widest(2), 2);
    }

    private static void clauseOfKeepsParents() {
        OrderedClauses x = told("-ac b-c");
        x.run(2);
        x.rank(0, 5);
        DUE.same("greatest by new ranks", x.clauseOf(0, 2), 1);
        DUE.same("the resolvent's, too", x.clauseOf(2, 2), 1);
        DUE.same("but the parents stay", x.clauseOf(2, 3) * 10 + x.clauseOf(2, 4), 1);
        DUE.same("and the atom by which it was made", x.clauseOf(2, 5), 2);
    }

    private static void depthOfTwoResolvents() {
        OrderedClauses x = told("ac a-c -ae -ad-e -a-d");
        x.run(40);
        int end = x.refutation();
        DUE.same("of the one parent", x.clauseOf(x.clauseOf(end, 3), 8), 1);
        DUE.same("of the other one", x.clauseOf(x.clauseOf(end, 4), 8), 2);
        DUE.same("1 more than the greater one", x.clauseOf(end, 8), 3);
        DUE.same("all that were told are in its tree", x.tree(end) & 31, 31);
        OrderedClauses y = told("a -ab -bc -cd -de -ef -f");
        y.run(40);
        DUE.same("a deep one", y.clauseOf(y.refutation(), 8), 6);
        DUE.same("has all of them in its tree, too", y.tree(y.refutation()) & 127, 127);
    }

    private static void tree() {
        OrderedClauses x = told("a -ab -bc d -c");
        x.run(40);
        int end = x.refutation();
        DUE.same("the tree of a told one", x.tree(3), 8);
        DUE.holds("there is a refutation", end > 4);
        DUE.same("its tree is without d", x.tree(end) & 8, 0);
        DUE.same("but with all others that were told", x.tree(end) & 31, 23);
        DUE.same("it is in its tree", (x.tree(end) >> end) & 1, 1);
        DUE.same("parents are", x.tree(5), 32L | 1L << x.clauseOf(5, 3) | 1L << x.clauseOf(5, 4));
        for (int wrong : new int[] {-1, x.count(0), 40, LEAST, GREATEST}) {
            refused(x, "tree of " + wrong, () -> x.tree(wrong), INVALID);
        }
        DUE.same("bit 39", told(FORTY).tree(39), 1L << 39);
    }

    private static void widest() {
        OrderedClauses x = told("abc ab-c a-b -a f");
        x.run(40);
        DUE.same("widest of a told one", x.widest(0), 3);
        DUE.same("of a narrow one", x.widest(4), 1);
        DUE.same("of the refutation", x.widest(x.refutation()), 3);
        OrderedClauses y = new OrderedClauses();
        y.tell(0);
        DUE.same("of the empty clause", y.widest(0), 0);
        OrderedClauses z = told("a -ab -b cdef");
        z.run(40);
        DUE.same("only of its tree", z.widest(z.refutation()), 2);
        for (int wrong : new int[] {-1, x.count(0), 40, LEAST, GREATEST}) {
            refused(x, "widest of " + wrong, () -> x.widest(wrong), INVALID);
        }
    }

    private static void refutation() {
        OrderedClauses x = told("a b");
        DUE.same("none", x.refutation(), MISSING);
        DUE.same("the empty one", x.tell(0), 2);
        DUE.same("is it", x.refutation(), 2);
        x.undo();
        DUE.same("none again", x.refutation(), MISSING);
        OrderedClauses y = told("a -a");
        DUE.same("not before it came", y.refutation(), MISSING);
        y.run(2);
        DUE.same("a resolvent", y.refutation(), 2);
        DUE.same("its parents", y.clauseOf(2, 3) * 10 + y.clauseOf(2, 4), 1);
        DUE.same("its depth", y.clauseOf(2, 8), 1);
    }

    private static void models() {
        DUE.same("one literal", told("a").models(), 32);
        DUE.same("two literals", told("a-f").models(), 48);
        DUE.same("two clauses", told("a -f").models(), 16);
        DUE.same("all atoms", told("a -b c -d e -f").models(), 1);
        DUE.same("none", told("a -a").models(), 0);
        OrderedClauses x = told("ab a-c");
        x.tell(bits("a"));
        DUE.same("with the dropped ones", x.models(), 32);
        OrderedClauses y = told("ac b-c");
        int before = y.models();
        y.run(40);
        DUE.same("resolvents change nothing", y.models(), before);
        DUE.same("this many", before, 32);
        OrderedClauses z = new OrderedClauses();
        z.tell(bits("a-a"));
        DUE.same("one that does not come", z.models(), 64);
    }

    private static void model() {
        OrderedClauses x = told("b -d");
        DUE.same("the least", x.model(0), 2);
        DUE.same("the second", x.model(1), 3);
        DUE.same("the fifth", x.model(4), 18);
        DUE.same("the last", x.model(15), 55);
        DUE.same("no more", x.model(16), MISSING);
        DUE.same("far too many", x.model(GREATEST), MISSING);
        refused(x, "negative", () -> x.model(-1), INVALID);
        refused(x, "the least number", () -> x.model(LEAST), INVALID);
        DUE.same("none at all", told("a -a").model(0), MISSING);
        OrderedClauses y = new OrderedClauses();
        for (int i = 0; i < 64; i++) {
            DUE.same("all", y.model(i), i);
        }
        DUE.same("not 64", y.model(64), MISSING);
    }

    private static void broken() {
        OrderedClauses x = told("ab -c f");
        DUE.same("by 0", x.broken(0), 5);
        DUE.same("by c", x.broken(4), 7);
        DUE.same("by all", x.broken(63), 2);
        DUE.same("by none", x.broken(34), 0);
        x.tell(bits("a"));
        DUE.same("dropped ones do not count", x.broken(0), 12);
        DUE.same("nor here", x.broken(34), 8);
        OrderedClauses y = told("ac b-c");
        y.run(40);
        DUE.same("resolvents count", y.broken(0), 5);
        OrderedClauses z = new OrderedClauses();
        z.tell(0);
        DUE.same("the empty clause", z.broken(63), 1);
        DUE.same("the last of 40", told(FORTY).broken(13) >> 39, 1);
        for (int wrong : new int[] {-1, 64, LEAST, GREATEST}) {
            refused(x, "broken by " + wrong, () -> x.broken(wrong), INVALID);
        }
    }

    private static void core() {
        DUE.same("can be fulfilled", told("a b").core(), MISSING);
        DUE.same("both", told("a -a").core(), 3);
        DUE.same("the lowest are left out first", told("a -a b -b").core(), 12);
        DUE.same("with those that are needed", told("ab c -ab f -b").core(), 21);
        OrderedClauses x = told("ab a-b -af b-f");
        x.tell(bits("-b"));
        x.tell(bits("-a"));
        DUE.same("dropped ones are told ones", x.core(), 1 | 16 | 32);
        x.run(40);
        DUE.same("resolvents are not", x.core(), 1 | 16 | 32);
        OrderedClauses y = told("a -a");
        y.tell(0);
        DUE.same("the empty clause alone", y.core(), 4);
        OrderedClauses z = told("a -a b");
        z.run(40);
        DUE.same("the empty clause that came is not told", z.core(), 3);
        DUE.same("the last of 40 is left out", told(without(3, FORTY_WITH_A) + " -a a b").core(), 3L << 37);
    }

    private static void follows() {
        OrderedClauses x = told("a -ab -bc");
        DUE.same("itself", x.follows(bits("a")), 1);
        DUE.same("c", x.follows(bits("c")), 1);
        DUE.same("a wider one", x.follows(bits("c-f")), 1);
        DUE.same("not d", x.follows(bits("d")), 0);
        DUE.same("not -c", x.follows(bits("-c")), 0);
        DUE.same("what holds always", x.follows(bits("d-d")), 1);
        DUE.same("not the empty one", x.follows(0), 0);
        DUE.same("all literals", x.follows(4095), 1);
        x.tell(bits("-c"));
        DUE.same("anything", x.follows(0), 1);
        for (int wrong : new int[] {-1, 4096, LEAST, GREATEST}) {
            refused(x, "follows " + wrong, () -> x.follows(wrong), INVALID);
        }
        DUE.same("no clause changes", x.count(0), 4);
    }

    private static void share() {
        OrderedClauses x = told("a");
        for (int literals = 0; literals <= 4095; literals++) {
            x = literals % 500 == 0 ? told("a") : x;
            int fulfilled = 0;
            for (int values = 0; values < 64; values++) {
                boolean holds = false;
                for (int l = 0; l < 12; l++) {
                    holds |= (literals >> l & 1) == 1 && (values >> (l / 2) & 1) == 1 - l % 2;
                }
                fulfilled += holds ? 1 : 0;
            }
            DUE.same("share(" + literals + ")", x.share(literals), Float.floatToIntBits((float) fulfilled / 64));
        }
        OrderedClauses y = told("a");
        for (int wrong : new int[] {-1, 4096, LEAST, GREATEST}) {
            refused(y, "share " + wrong, () -> y.share(wrong), INVALID);
        }
    }

    private static void count() {
        OrderedClauses x = told("ac b-c de d");
        x.tell(bits("f-f"));
        x.tell(bits("acf"));
        x.run(2);
        x.set(3);
        x.rank(1, 3);
        typed(x, "abc");
        int[] wanted = {4, 3, 0, 1, 2, 3, 1, 1, 4, 3, 0, 3, 2, 1, 4, 5};
        for (int what = 0; what < wanted.length; what++) {
            DUE.same("count " + what, x.count(what), wanted[what]);
        }
        x.run(1);
        DUE.same("one done", x.count(2), 1);
        for (int wrong : new int[] {-1, 16, LEAST, GREATEST}) {
            refused(x, "count " + wrong, () -> x.count(wrong), INVALID);
        }
    }

    private static void undo() {
        OrderedClauses x = new OrderedClauses();
        refused(x, "undo of nothing", x::undo, IMPOSSIBLE);
        x.tell(bits("ac"));
        x.tell(bits("b-c"));
        x.rank(0, 5);
        x.set(2);
        x.tell(bits("-c-c"));
        x.tell(bits("a-a"));
        x.run(40);
        x.empty();
        DUE.same("undo", x.undo(), 3);
        DUE.same("undo", x.undo(), 2);
        DUE.same("undo", x.undo(), 1);
        DUE.same("undo", x.undo(), 0);
        x.tell(bits("a-a"));
        x.undo();
        DUE.same("held always is restored", x.count(6), 0);
        x.tell(bits("acd"));
        x.undo();
        DUE.same("within is restored", x.count(7), 0);
        DUE.same("setting is restored", x.count(5), 2);
        DUE.same("undo of nothing more", x.undo(), IMPOSSIBLE);
    }

    private static void undoOfEach() {
        restored("tell", x -> x.tell(bits("-a")));
        restored("tell of what holds always", x -> x.tell(bits("a-a")));
        restored("tell of what has another within", x -> x.tell(bits("ef")));
        restored("tell of the empty clause", x -> x.tell(0));
        restored("rank", x -> x.rank(2, 5));
        restored("set", x -> x.set(9));
        restored("step", OrderedClauses::step);
        restored("run", x -> x.run(40));
        restored("empty", OrderedClauses::empty);
        restored("play", OrderedClauses::play);
    }

    /** Undoes one change, and then one with others behind it that use the same numbers again. */
    private static void restored(String what, Whole.Call change) {
        List<Long> before = Whole.of(PromisesTest::withResolvents);
        DUE.holds(what, change.on(withResolvents()) > INVALID);
        DUE.holds("all behind undo of " + what, before.equals(Whole.of(() -> undone(change))));
        DUE.holds("all behind four undone of " + what, before.equals(Whole.of(() -> fourUndone(change))));
    }

    private static OrderedClauses withResolvents() {
        OrderedClauses x = typed(told("ab-c -ac c-d abd e"), "f;-fe;a-a;-ed;-dc;-cb;-ba;");
        x.rank(0, 3);
        x.run(5);
        DUE.holds("there are resolvents", x.count(0) > 5);
        return fourStates(x);
    }

    private static OrderedClauses undone(Whole.Call change) {
        OrderedClauses x = withResolvents();
        change.on(x);
        DUE.same("states left", x.undo(), 3);
        return fourStates(x);
    }

    private static OrderedClauses fourUndone(Whole.Call change) {
        OrderedClauses x = withResolvents();
        change.on(x);
        x.empty();
        x.play();
        x.run(40);
        for (int left = 3; left >= 0; left--) {
            DUE.same("states left", x.undo(), left);
        }
        x.play();
        x.empty();
        x.undo();
        x.undo();
        return fourStates(x);
    }

    private static OrderedClauses fourStates(OrderedClauses x) {
        for (int i = 0; i < 4; i++) {
            x.set(x.count(5));
        }
        return x;
    }

    private static void history() {
        OrderedClauses x = new OrderedClauses();
        for (int i = 1; i <= 6; i++) {
            x.set(i);
            DUE.same("states", x.count(8), Math.min(i, 4));
        }
        typed(x, "ab;");
        for (int i = 5; i >= 2; i--) {
            DUE.same("states left", x.undo(), i - 2);
            DUE.same("setting", x.count(5), i);
        }
        DUE.same("the text is not restored", x.count(9), 3);
        refused(x, "only four", x::undo, IMPOSSIBLE);
        x.clearText();
        x.play();
        x.step();
        x.tell(-1);
        x.models();
        DUE.same("errors and questions are no changes", x.count(8), 1);
        x.empty();
        x.run(1);
        x.rank(1, 1);
        DUE.same("but these are", x.count(8), 4);
    }

    private static void type() {
        OrderedClauses x = new OrderedClauses();
        DUE.same("the least", x.type(32), 1);
        DUE.same("the greatest", x.type(126), 2);
        for (int wrong : new int[] {31, 127, -1, LEAST, GREATEST}) {
            refused(x, "type " + wrong, () -> x.type(wrong), INVALID);
        }
        for (int i = 3; i <= 60; i++) {
            DUE.same("type", x.type(';'), i);
        }
        refused(x, "type to a full text", () -> x.type('a'), LIMIT);
        refused(x, "a wrong one to a full text", () -> x.type(127), INVALID);
        DUE.same("no change", x.count(8), 0);
    }

    private static void clearText() {
        OrderedClauses x = new OrderedClauses();
        DUE.same("an empty text", x.clearText(), 0);
        typed(x, "a?");
        DUE.same("faulty", x.fault(0), 0);
        DUE.same("clear", x.clearText(), 2);
        DUE.same("empty", x.count(9), 0);
        DUE.same("no fault", x.fault(0), MISSING);
        DUE.same("no change", x.count(8), 0);
        typed(x, ";".repeat(60));
        DUE.same("a full one", x.clearText(), 60);
    }

    private static void fault() {
        faultIs("", MISSING, MISSING);
        faultIs(";", MISSING, MISSING);
        faultIs(";;;", MISSING, MISSING);
        faultIs("a;-f;ab-c;", MISSING, MISSING);
        faultIs("aa-a;", MISSING, MISSING);
        faultIs("a", 0, 1);
        faultIs(";g;", 1, 0);
        faultIs("ab;c", 3, 1);
        faultIs("ab;-", 3, 1);
        faultIs("-", 0, 1);
        faultIs("-;", 0, 1);
        faultIs("a--b;", 0, 2);
        faultIs("g;", 0, 0);
        faultIs("a;bg;", 2, 1);
        faultIs("a;b-g;?", 2, 2);
        faultIs("a;b ;", 2, 1);
        faultIs("a;;A;", 3, 0);
        faultIs("a`;", 0, 1);
        faultIs("a;b:", 2, 1);
        faultIs("a".repeat(60), 0, 60);
        faultIs("a".repeat(59) + ";", MISSING, MISSING);
        OrderedClauses x = typed(new OrderedClauses(), "?");
        for (int wrong : new int[] {-1, 2, LEAST, GREATEST}) {
            refused(x, "fault " + wrong, () -> x.fault(wrong), INVALID);
        }
        DUE.same("wrong without a fault", new OrderedClauses().fault(2), INVALID);
    }

    private static void faultIs(String text, int position, int cause) {
        OrderedClauses x = typed(new OrderedClauses(), text);
        DUE.same("position in " + text, x.fault(0), position);
        DUE.same("cause in " + text, x.fault(1), cause);
        if (position != MISSING) {
            refused(x, "play " + text, x::play, IMPOSSIBLE);
        }
    }

    private static void play() {
        OrderedClauses x = typed(new OrderedClauses(), "ab;a-a;-fe;abc;b;-f-fb-e;aa;");
        DUE.same("came", x.play(), 4);
        clauseIs(x, 0, "ab", 2);
        clauseIs(x, 1, "e-f", 0);
        clauseIs(x, 2, "b", 0);
        clauseIs(x, 3, "a", 0);
        DUE.same("clauses", x.count(0), 4);
        DUE.same("held always", x.count(6), 1);
        DUE.same("within", x.count(7), 2);
        DUE.same("the text stays", x.count(9), 28);
        DUE.same("one change", x.count(8), 1);
        DUE.same("again", x.play(), 0);
        DUE.same("a change, too", x.count(8), 2);
        DUE.same("undo", x.undo(), 1);
        DUE.same("undo", x.undo(), 0);
        DUE.same("none", x.count(0) + x.count(6) + x.count(7), 0);
        x.clearText();
        DUE.same("an empty text", x.play(), 0);
        DUE.same("is a change", x.count(8), 1);
        typed(x, "a;;b;");
        DUE.same("the empty clause", x.play(), 2);
        DUE.same("came", x.refutation(), 1);
        DUE.same("the last had another within", x.count(7), 1);
        DUE.same("sixty", typed(new OrderedClauses(), ";".repeat(60)).play(), 1);
    }

    private static void playErrors() {
        OrderedClauses x = typed(told("a"), "b;c");
        refused(x, "play of a fault", x::play, IMPOSSIBLE);
        OrderedClauses full = typed(told(FORTY), "a-a;abc;def;");
        refused(full, "play to a full store", full::play, LIMIT);
        typed(full, "a-a;abc;");
        DUE.same("none would come", full.play(), 0);
        typed(full, "def;?");
        refused(full, "a fault ahead of the limit", full::play, IMPOSSIBLE);
        full.undo();
        full.undo();
        typed(full, "ef;de-f;");
        refused(full, "one comes, the next would", full::play, LIMIT);
        typed(full, "ef;def;");
        DUE.same("the last one", full.play(), 1);
        DUE.same("its number", full.clauseOf(39, 0), bits("ef"));
    }
}
