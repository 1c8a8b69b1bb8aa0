/**
 * Clauses over six atoms, kept in an order of the atoms, with resolvents by greatest literals alone.
 *
 * A clause is a set of literals told as bits; a set of values of all atoms is told as a long, bit v for the
 * values v. Each call that changes something first puts the store aside, so that a refused call can be taken
 * back whole and an accepted one can be undone.
 */
public final class OrderedClauses {
    public static final int INVALID_ARGUMENT = -1000001;
    public static final int NOT_POSSIBLE = -1000002;
    public static final int LIMIT_REACHED = -1000003;
    public static final int NOT_FOUND = -1000004;

    private static final int ATOMS = 6;
    private static final int ALL_LITERALS = 0xFFF;
    private static final int HOLDING_LITERALS = 0x555;
    private static final int ALL_VALUES = 64;
    private static final int MOST_CLAUSES = 40;
    private static final int MOST_STEPS = 40;
    private static final int MOST_STATES = 4;
    private static final int MOST_CHARACTERS = 60;
    private static final int GREATEST_SETTING = 9;
    private static final int FIRST_SETTING = 4;
    private static final int LEAST_CHARACTER = 32;
    private static final int GREATEST_CHARACTER = 126;

    private static final int NONE = -1;
    private static final int HOLDS_ALWAYS = -1;
    private static final int ANOTHER_WITHIN = -2;

    private static final int OPEN = 0;
    private static final int DONE = 1;
    private static final int DROPPED = 2;

    /** For each atom the values in which it holds. */
    private static final long[] VALUES_WITH_ATOM = {
        0xAAAAAAAAAAAAAAAAL, 0xCCCCCCCCCCCCCCCCL, 0xF0F0F0F0F0F0F0F0L,
        0xFF00FF00FF00FF00L, 0xFFFF0000FFFF0000L, 0xFFFFFFFF00000000L
    };

    private final Store store;
    private final History history;
    private final Text text;

    public OrderedClauses() {
        store = new Store();
        history = new History();
        text = new Text();
    }

    // ---- the store

    public int tell(int literals) {
        if (literals < 0 || literals > ALL_LITERALS) {
            return INVALID_ARGUMENT;
        }
        history.putAside(store);
        return settle(store.bring(literals, NONE, NONE, NONE));
    }

    public int rank(int atom, int rank) {
        if (atom < 0 || atom >= ATOMS || rank < 0 || rank >= ATOMS) {
            return INVALID_ARGUMENT;
        }
        history.putAside(store);
        return settle(store.changeRank(atom, rank));
    }

    public int set(int value) {
        if (value < 1 || value > GREATEST_SETTING) {
            return INVALID_ARGUMENT;
        }
        history.putAside(store);
        int former = store.setting;
        store.setting = value;
        return settle(former);
    }

    public int step() {
        history.putAside(store);
        return settle(store.takeStep());
    }

    public int run(int most) {
        if (most < 1 || most > MOST_STEPS) {
            return INVALID_ARGUMENT;
        }
        history.putAside(store);
        int taken = 0;
        for (int i = 0; i < most; i++) {
            int answer = store.takeStep();
            if (answer == LIMIT_REACHED) {
                return settle(LIMIT_REACHED);
            }
            if (answer == NOT_POSSIBLE) {
                break;
            }
            taken++;
        }
        return settle(taken);
    }

    public int empty() {
        history.putAside(store);
        int former = store.clauses;
        store.clauses = 0;
        store.steps = 0;
        return settle(former);
    }

    public int clauseOf(int clause, int what) {
        if (!store.has(clause)) {
            return INVALID_ARGUMENT;
        }
        switch (what) {
            case 0:
                return at(store.literals, clause);
            case 1:
                return at(store.status, clause);
            case 2:
                return foundOrNot(store.greatestOf(at(store.literals, clause)));
            case 3:
                return foundOrNot(at(store.holdingParent, clause));
            case 4:
                return foundOrNot(at(store.otherParent, clause));
            case 5:
                return foundOrNot(at(store.atomMadeBy, clause));
            case 6:
                return Integer.bitCount(at(store.literals, clause));
            case 7:
                return store.howManyLessThan(clause);
            case 8:
                return at(store.depth, clause);
            default:
                return INVALID_ARGUMENT;
        }
    }

    // ---- refutations

    public long tree(int clause) {
        return store.has(clause) ? store.treeOf(clause) : INVALID_ARGUMENT;
    }

    public int widest(int clause) {
        return store.has(clause) ? store.mostLiterals(store.treeOf(clause)) : INVALID_ARGUMENT;
    }

    public int refutation() {
        return foundOrNot(store.emptyClause());
    }

    // ---- values

    public int models() {
        return Long.bitCount(store.valuesFulfilling(store.toldClauses()));
    }

    public int model(int index) {
        if (index < 0) {
            return INVALID_ARGUMENT;
        }
        long fulfilling = store.valuesFulfilling(store.toldClauses());
        int before = 0;
        for (int values = 0; values < ALL_VALUES; values++) {
            if (isIn(fulfilling, values)) {
                if (before == index) {
                    return values;
                }
                before++;
            }
        }
        return NOT_FOUND;
    }

    public long broken(int values) {
        if (values < 0 || values >= ALL_VALUES) {
            return INVALID_ARGUMENT;
        }
        return store.clausesBrokenBy(values);
    }

    public long core() {
        long told = store.toldClauses();
        return store.valuesFulfilling(told) == 0 ? store.fewestUnfulfillable(told) : NOT_FOUND;
    }

    public int follows(int literals) {
        if (literals < 0 || literals > ALL_LITERALS) {
            return INVALID_ARGUMENT;
        }
        long fulfilling = store.valuesFulfilling(store.toldClauses());
        return (fulfilling & ~valuesOfClause(literals)) == 0 ? 1 : 0;
    }

    public int share(int literals) {
        if (literals < 0 || literals > ALL_LITERALS) {
            return INVALID_ARGUMENT;
        }
        return floatBitsOf64ths(Long.bitCount(valuesOfClause(literals)));
    }

    public int count(int what) {
        switch (what) {
            case 0:
                return store.clauses;
            case 1:
                return store.howMany(OPEN);
            case 2:
                return store.howMany(DONE);
            case 3:
                return store.howMany(DROPPED);
            case 4:
                return store.steps;
            case 5:
                return store.setting;
            case 6:
                return store.heldAlways;
            case 7:
                return store.hadAnotherWithin;
            case 8:
                return history.kept;
            case 9:
                return text.length;
            default:
                return what >= 10 && what < 10 + ATOMS ? store.rankOf(what - 10) : INVALID_ARGUMENT;
        }
    }

    public int undo() {
        return history.restoreLatest(store) ? history.kept : NOT_POSSIBLE;
    }

    // ---- texts

    public int type(int character) {
        if (character < LEAST_CHARACTER || character > GREATEST_CHARACTER) {
            return INVALID_ARGUMENT;
        }
        return text.add(character) ? text.length : LIMIT_REACHED;
    }

    public int clearText() {
        int former = text.length;
        text.length = 0;
        return former;
    }

    public int fault(int what) {
        if (what < 0 || what > 1) {
            return INVALID_ARGUMENT;
        }
        int breaksOff = text.whereItBreaksOff();
        if (breaksOff == NONE) {
            return NOT_FOUND;
        }
        int position = text.startOfClause(breaksOff);
        return what == 0 ? position : breaksOff - position;
    }

    public int play() {
        if (text.whereItBreaksOff() != NONE) {
            return NOT_POSSIBLE;
        }
        history.putAside(store);
        return settle(bringText());
    }

    /** Ends a change: takes it back if the answer is an error, otherwise records what was put aside. */
    private int settle(int answer) {
        if (answer <= INVALID_ARGUMENT) {
            history.takeBack(store);
        } else {
            history.keep();
        }
        return answer;
    }

    private int bringText() {
        int came = 0;
        int literals = 0;
        int sign = 0;
        for (int i = 0; i < text.length; i++) {
            int character = at(text.characters, i);
            if (character == ';') {
                int answer = store.bring(literals, NONE, NONE, NONE);
                if (answer == LIMIT_REACHED) {
                    return LIMIT_REACHED;
                }
                came += answer >= 0 ? 1 : 0;
                literals = 0;
            } else if (character == '-') {
                sign = 1;
            } else {
                literals |= 1 << (2 * (character - 'a') + sign);
                sign = 0;
            }
        }
        return came;
    }

    private static int foundOrNot(int number) {
        return number < 0 ? NOT_FOUND : number;
    }

    /** The element, or 0 outside the row: so no index can make the machine throw. */
    private static int at(int[] row, int index) {
        return row != null && index >= 0 && index < row.length ? row[index] : 0;
    }

    private static void put(int[] row, int index, int value) {
        if (row != null && index >= 0 && index < row.length) {
            row[index] = value;
        }
    }

    private static long longAt(long[] row, int index) {
        return row != null && index >= 0 && index < row.length ? row[index] : 0;
    }

    private static void putLong(long[] row, int index, long value) {
        if (row != null && index >= 0 && index < row.length) {
            row[index] = value;
        }
    }

    private static void copyRow(int[] from, int[] to) {
        if (from != null && to != null) {
            System.arraycopy(from, 0, to, 0, Math.min(from.length, to.length));
        }
    }

    private static void copyLongRow(long[] from, long[] to) {
        if (from != null && to != null) {
            System.arraycopy(from, 0, to, 0, Math.min(from.length, to.length));
        }
    }

    private static boolean isIn(long set, int number) {
        return ((set >>> number) & 1) != 0;
    }

    private static long setOf(int number) {
        return number < 0 ? 0 : 1L << number;
    }

    private static boolean isWithin(int part, int whole) {
        return (part & ~whole) == 0;
    }

    private static boolean holdsAlways(int literals) {
        return (literals & (literals >> 1) & HOLDING_LITERALS) != 0;
    }

    private static long valuesOfClause(int literals) {
        long values = 0;
        for (int atom = 0; atom < ATOMS; atom++) {
            int pair = (literals >> (2 * atom)) & 3;
            long holding = longAt(VALUES_WITH_ATOM, atom);
            values |= (pair & 1) != 0 ? holding : 0;
            values |= (pair & 2) != 0 ? ~holding : 0;
        }
        return values;
    }

    /** The sign is 0; the exponent is that of the highest bit; that bit itself is not written. */
    private static int floatBitsOf64ths(int parts) {
        if (parts <= 0) {
            return 0;
        }
        int highest = 0;
        for (int bit = 1; bit <= 6; bit++) {
            highest = (parts >> bit) != 0 ? bit : highest;
        }
        int exponent = 127 + highest - 6;
        return (exponent << 23) | ((parts << (23 - highest)) & 0x7FFFFF);
    }

    /** Everything that a change may change: the clauses, the order of the atoms, the setting and the counts. */
    private static final class Store {
        /** The atom of each rank. */
        private final int[] atomOfRank = new int[ATOMS];
        private final int[] literals = new int[MOST_CLAUSES];
        private final int[] status = new int[MOST_CLAUSES];
        /** NONE for a clause that was told, as in the next two rows. */
        private final int[] holdingParent = new int[MOST_CLAUSES];
        private final int[] otherParent = new int[MOST_CLAUSES];
        private final int[] atomMadeBy = new int[MOST_CLAUSES];
        private final int[] depth = new int[MOST_CLAUSES];
        private final long[] fulfilledBy = new long[MOST_CLAUSES];
        private int clauses = 0;
        private int steps = 0;
        private int setting = FIRST_SETTING;
        private int heldAlways = 0;
        private int hadAnotherWithin = 0;

        private Store() {
            for (int rank = 0; rank < ATOMS; rank++) {
                put(atomOfRank, rank, rank);
            }
        }

        private void copyFrom(Store other) {
            if (other == null) {
                return;
            }
            copyRow(other.atomOfRank, atomOfRank);
            copyRow(other.literals, literals);
            copyRow(other.status, status);
            copyRow(other.holdingParent, holdingParent);
            copyRow(other.otherParent, otherParent);
            copyRow(other.atomMadeBy, atomMadeBy);
            copyRow(other.depth, depth);
            copyLongRow(other.fulfilledBy, fulfilledBy);
            clauses = other.clauses;
            steps = other.steps;
            setting = other.setting;
            heldAlways = other.heldAlways;
            hadAnotherWithin = other.hadAnotherWithin;
        }

        private boolean has(int clause) {
            return clause >= 0 && clause < clauses;
        }

        private boolean isDropped(int clause) {
            return at(status, clause) == DROPPED;
        }

        private boolean wasTold(int clause) {
            return at(holdingParent, clause) == NONE;
        }

        private int rankOf(int atom) {
            for (int rank = 0; rank < ATOMS; rank++) {
                if (at(atomOfRank, rank) == atom) {
                    return rank;
                }
            }
            return NONE;
        }

        private int changeRank(int atom, int rank) {
            int former = rankOf(atom);
            put(atomOfRank, former, at(atomOfRank, rank));
            put(atomOfRank, rank, atom);
            for (int clause = 0; clause < clauses; clause++) {
                if (at(status, clause) == DONE) {
                    put(status, clause, OPEN);
                }
            }
            return former;
        }

        private int greatestOf(int set) {
            for (int rank = ATOMS - 1; rank >= 0; rank--) {
                int atom = at(atomOfRank, rank);
                int pair = (set >> (2 * atom)) & 3;
                if (pair != 0) {
                    return 2 * atom + (pair >> 1);
                }
            }
            return NONE;
        }

        private boolean isLess(int some, int other) {
            int greatest = greatestOf(some ^ other);
            return greatest != NONE && isIn(other, greatest);
        }

        private int howManyLessThan(int clause) {
            int less = 0;
            for (int other = 0; other < clauses; other++) {
                if (!isDropped(other) && isLess(at(literals, other), at(literals, clause))) {
                    less++;
                }
            }
            return less;
        }

        private int howMany(int wanted) {
            int found = 0;
            for (int clause = 0; clause < clauses; clause++) {
                found += at(status, clause) == wanted ? 1 : 0;
            }
            return found;
        }

        private int emptyClause() {
            for (int clause = 0; clause < clauses; clause++) {
                if (at(literals, clause) == 0) {
                    return clause;
                }
            }
            return NONE;
        }

        /** Answers the number of the clause if it comes, otherwise why it does not. */
        private int bring(int set, int holding, int other, int atom) {
            if (holdsAlways(set)) {
                heldAlways++;
                return HOLDS_ALWAYS;
            }
            if (hasAnotherWithin(set)) {
                hadAnotherWithin++;
                return ANOTHER_WITHIN;
            }
            if (clauses >= MOST_CLAUSES) {
                return LIMIT_REACHED;
            }
            dropAllAround(set);
            return takeIn(set, holding, other, atom);
        }

        private boolean hasAnotherWithin(int set) {
            for (int clause = 0; clause < clauses; clause++) {
                if (!isDropped(clause) && isWithin(at(literals, clause), set)) {
                    return true;
                }
            }
            return false;
        }

        private void dropAllAround(int set) {
            for (int clause = 0; clause < clauses; clause++) {
                if (isWithin(set, at(literals, clause))) {
                    put(status, clause, DROPPED);
                }
            }
        }

        private int takeIn(int set, int holding, int other, int atom) {
            int number = clauses;
            boolean isTold = holding == NONE;
            put(literals, number, set);
            put(status, number, OPEN);
            put(holdingParent, number, holding);
            put(otherParent, number, other);
            put(atomMadeBy, number, atom);
            put(depth, number, isTold ? 0 : 1 + Math.max(at(depth, holding), at(depth, other)));
            putLong(fulfilledBy, number, valuesOfClause(set));
            clauses = number + 1;
            return number;
        }

        private int takeStep() {
            int chosen = emptyClause() == NONE ? nextChoice() : NONE;
            if (chosen == NONE) {
                return NOT_POSSIBLE;
            }
            steps++;
            put(status, chosen, DONE);
            return resolveWithDone(chosen) ? chosen : LIMIT_REACHED;
        }

        private int nextChoice() {
            boolean firstOfAll = setting > 0 && (steps + 1) % setting == 0;
            int chosen = NONE;
            int fewest = ATOMS + 1;
            for (int clause = 0; clause < clauses; clause++) {
                int size = Integer.bitCount(at(literals, clause));
                if (at(status, clause) == OPEN && size < fewest) {
                    if (firstOfAll) {
                        return clause;
                    }
                    chosen = clause;
                    fewest = size;
                }
            }
            return chosen;
        }

        /** Tells whether the limit stayed unreached. The empty clause drops the chosen one, so it ends this too. */
        private boolean resolveWithDone(int chosen) {
            int literal = greatestOf(at(literals, chosen));
            int opposite = literal ^ 1;
            boolean holds = literal < opposite;
            int both = (1 << literal) | (1 << opposite);
            int partners = clauses;
            for (int other = 0; other < partners && !isDropped(chosen); other++) {
                if (at(status, other) == DONE && greatestOf(at(literals, other)) == opposite) {
                    int set = (at(literals, chosen) | at(literals, other)) & ~both;
                    int answer = bring(set, holds ? chosen : other, holds ? other : chosen, literal >> 1);
                    if (answer == LIMIT_REACHED) {
                        return false;
                    }
                }
            }
            return true;
        }

        /** Parents have lower numbers than their children, so one way down meets each clause of the tree. */
        private long treeOf(int clause) {
            long tree = setOf(clause);
            for (int member = clause; member >= 0; member--) {
                if (isIn(tree, member)) {
                    tree |= setOf(at(holdingParent, member)) | setOf(at(otherParent, member));
                }
            }
            return tree;
        }

        private int mostLiterals(long set) {
            int most = 0;
            for (int clause = 0; clause < clauses; clause++) {
                if (isIn(set, clause)) {
                    most = Math.max(most, Integer.bitCount(at(literals, clause)));
                }
            }
            return most;
        }

        private long toldClauses() {
            long told = 0;
            for (int clause = 0; clause < clauses; clause++) {
                told |= wasTold(clause) ? setOf(clause) : 0;
            }
            return told;
        }

        private long valuesFulfilling(long set) {
            long values = -1L;
            for (int clause = 0; clause < clauses && values != 0; clause++) {
                if (isIn(set, clause)) {
                    values &= longAt(fulfilledBy, clause);
                }
            }
            return values;
        }

        private long clausesBrokenBy(int values) {
            long set = 0;
            for (int clause = 0; clause < clauses; clause++) {
                if (!isDropped(clause) && !isIn(longAt(fulfilledBy, clause), values)) {
                    set |= setOf(clause);
                }
            }
            return set;
        }

        private long fewestUnfulfillable(long told) {
            long left = told;
            for (int clause = 0; clause < clauses; clause++) {
                long others = left & ~setOf(clause);
                if (valuesFulfilling(others) == 0) {
                    left = others;
                }
            }
            return left;
        }
    }

    /** The states before the latest changes, the oldest first; the one behind them is where a store is put aside. */
    private static final class History {
        private final Store[] states = new Store[MOST_STATES + 1];
        private int kept = 0;

        private History() {
            for (int i = 0; i < states.length; i++) {
                states[i] = new Store();
            }
        }

        private Store stateAt(int index) {
            return index >= 0 && index < states.length ? states[index] : null;
        }

        private void putAside(Store store) {
            Store aside = stateAt(kept);
            if (aside != null) {
                aside.copyFrom(store);
            }
        }

        private void takeBack(Store store) {
            store.copyFrom(stateAt(kept));
        }

        private void keep() {
            if (kept < MOST_STATES) {
                kept++;
            } else {
                dropOldest();
            }
        }

        /** The dropped state's rows are used again, behind the others. */
        private void dropOldest() {
            Store oldest = stateAt(0);
            int last = states.length - 1;
            for (int i = 0; i < last; i++) {
                states[i] = stateAt(i + 1);
            }
            if (last >= 0) {
                states[last] = oldest;
            }
        }

        private boolean restoreLatest(Store store) {
            if (kept <= 0) {
                return false;
            }
            kept--;
            store.copyFrom(stateAt(kept));
            return true;
        }
    }

    /** Characters that may be clauses. */
    private static final class Text {
        private final int[] characters = new int[MOST_CHARACTERS];
        private int length = 0;

        private boolean add(int character) {
            if (length >= MOST_CHARACTERS) {
                return false;
            }
            put(characters, length, character);
            length++;
            return true;
        }

        /** The index at which the first faulty clause breaks off, the length if the text ends within it, or NONE. */
        private int whereItBreaksOff() {
            boolean behindSign = false;
            for (int i = 0; i < length; i++) {
                int character = at(characters, i);
                boolean isLetter = character >= 'a' && character < 'a' + ATOMS;
                if (!isLetter && (behindSign || (character != '-' && character != ';'))) {
                    return i;
                }
                behindSign = character == '-';
            }
            return length == 0 || at(characters, length - 1) == ';' ? NONE : length;
        }

        private int startOfClause(int index) {
            for (int i = index - 1; i >= 0; i--) {
                if (at(characters, i) == ';') {
                    return i + 1;
                }
            }
            return 0;
        }
    }
}
