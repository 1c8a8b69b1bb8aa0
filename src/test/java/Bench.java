/** What the tests by hand share: the errors, the edges of int, and stores that are told clauses by letters. */
abstract class Bench {
    static final int INVALID = OrderedClauses.INVALID_ARGUMENT;
    static final int IMPOSSIBLE = OrderedClauses.NOT_POSSIBLE;
    static final int LIMIT = OrderedClauses.LIMIT_REACHED;
    static final int MISSING = OrderedClauses.NOT_FOUND;
    static final int LEAST = Integer.MIN_VALUE;
    static final int GREATEST = Integer.MAX_VALUE;

    /** 40 clauses; the first two have greatest literals that hold, the third one those that do not. */
    static final String FORTY =
        "abc -a-bc -a-b-c ab-c a-bc a-b-c -abc -ab-c"
        + " abd ab-d a-bd a-b-d -abd -ab-d -a-bd -a-b-d abe ab-e a-be a-b-e -abe -ab-e -a-be -a-b-e"
        + " abf ab-f a-bf a-b-f -abf -ab-f -a-bf -a-b-f acd ac-d a-cd a-c-d -acd -ac-d -a-cd -a-c-d";

    /** 40 clauses with a, which a alone fulfils all; without resolvents if a has the greatest rank. */
    static final String FORTY_WITH_A =
        "abc ab-c a-bc a-b-c abd ab-d a-bd a-b-d abe ab-e a-be a-b-e abf ab-f a-bf a-b-f"
        + " acd ac-d a-cd a-c-d ace ac-e a-ce a-c-e acf ac-f a-cf a-c-f"
        + " ade ad-e a-de a-d-e adf ad-f a-df a-d-f aef ae-f a-ef a-e-f";

    /**
     * 39 clauses; with setting 1 the third step brings two resolvents (bd and ce), the steps ahead of it none.
     */
    static final String THIRTY_NINE =
        "bdf cef -f abc -a-bc -a-b-c ab-c a-bc a-b-c -abc -ab-c"
        + " abd ab-d a-bd a-b-d -abd -ab-d -a-bd -a-b-d abe ab-e a-be a-b-e -abe -ab-e -a-be -a-b-e"
        + " acd ac-d a-cd a-c-d -acd -ac-d -a-cd -a-c-d abf a-bf -abf -a-bf";

    static final Due DUE = new Due();

    /** The literals of a clause in letters; the empty one is written 0. */
    static int bits(String clause) {
        int bits = 0;
        for (int i = 0; i < clause.length(); i++) {
            if (clause.charAt(i) != '-' && clause.charAt(i) != '0') {
                boolean sign = i > 0 && clause.charAt(i - 1) == '-';
                bits |= 1 << (2 * (clause.charAt(i) - 'a') + (sign ? 1 : 0));
            }
        }
        return bits;
    }

    /** A store that was told the clauses, which are all new to it. */
    static OrderedClauses told(String clauses) {
        OrderedClauses x = new OrderedClauses();
        int number = 0;
        for (String clause : clauses.split(" ")) {
            DUE.same("tell " + clause, x.tell(bits(clause)), number);
            number++;
        }
        return x;
    }

    /** The clauses but for the last few. */
    static String without(int last, String clauses) {
        String left = clauses;
        for (int i = 0; i < last; i++) {
            left = left.substring(0, left.lastIndexOf(' '));
        }
        return left;
    }

    static OrderedClauses typed(OrderedClauses x, String text) {
        x.clearText();
        for (int i = 0; i < text.length(); i++) {
            DUE.same("type " + text.charAt(i), x.type(text.charAt(i)), i + 1);
        }
        return x;
    }

    static void clauseIs(OrderedClauses x, int number, String clause, int status) {
        DUE.same("literals of " + number, x.clauseOf(number, 0), bits(clause));
        DUE.same("status of " + number, x.clauseOf(number, 1), status);
    }

    // ---- states that several tests start from

    /** Open, done and dropped clauses, resolvents, other ranks and setting, all counts, four states and a text. */
    static OrderedClauses bitOfEverything() {
        OrderedClauses x = told("ab-c -ac c-d abd e");
        x.rank(0, 3);
        x.tell(bits("a-a"));
        x.tell(bits("ef"));
        x.run(5);
        x.set(3);
        x.tell(bits("ab"));
        return typed(x, "ab;-c-d;");
    }

    static OrderedClauses fullStoreAndText() {
        return typed(full(), "def;".repeat(15));
    }

    static OrderedClauses full() {
        return told(FORTY);
    }

    static OrderedClauses fortiethIsEmpty() {
        OrderedClauses x = told(without(1, FORTY));
        DUE.same("the empty clause", x.tell(0), 39);
        return x;
    }

    static OrderedClauses refuted() {
        OrderedClauses x = told("a -a");
        DUE.same("run", x.run(2), 2);
        return x;
    }
}
