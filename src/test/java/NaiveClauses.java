import java.util.ArrayDeque;
import java.util.ArrayList;
import java.util.Deque;
import java.util.List;
import java.util.TreeSet;

/** The document once more, with sets, lists and whole copies: a second opinion for the random runs. */
final class NaiveClauses {
    static final int INVALID = -1000001;
    static final int IMPOSSIBLE = -1000002;
    static final int LIMIT = -1000003;
    static final int MISSING = -1000004;

    enum Status { OPEN, DONE, DROPPED }

    static final class Clause {
        final TreeSet<Integer> literals;
        final Clause holding;
        final Clause other;
        final int atom;
        Status status = Status.OPEN;

        Clause(TreeSet<Integer> literals, Clause holding, Clause other, int atom) {
            this.literals = literals;
            this.holding = holding;
            this.other = other;
            this.atom = atom;
        }

        int depth() {
            return holding == null ? 0 : 1 + Math.max(holding.depth(), other.depth());
        }

        boolean isFulfilledBy(int values) {
            return literals.stream().anyMatch(l -> ((values >> (l / 2)) & 1) == (l % 2 == 0 ? 1 : 0));
        }

        void collect(TreeSet<Integer> numbers, List<Clause> all) {
            numbers.add(all.indexOf(this));
            if (holding != null) {
                holding.collect(numbers, all);
                other.collect(numbers, all);
            }
        }
    }

    static final class LimitReached extends RuntimeException {
        private static final long serialVersionUID = 1L;
    }

    /** What a change may change; a copy keeps clause objects, with their status written beside them. */
    static final class State {
        List<Clause> clauses = new ArrayList<>();
        List<Status> written = new ArrayList<>();
        int[] rank = {0, 1, 2, 3, 4, 5};
        int setting = 4;
        int steps = 0;
        int always = 0;
        int within = 0;

        State copy() {
            State s = new State();
            s.clauses = new ArrayList<>(clauses);
            for (Clause c : clauses) {
                s.written.add(c.status);
            }
            s.rank = rank.clone();
            s.setting = setting;
            s.steps = steps;
            s.always = always;
            s.within = within;
            return s;
        }

        void putBack() {
            for (int i = 0; i < clauses.size(); i++) {
                clauses.get(i).status = written.get(i);
            }
            written.clear();
        }
    }

    private State now = new State();
    private final Deque<State> history = new ArrayDeque<>();
    private String text = "";

    private interface Change {
        int make();
    }

    private int change(Change c) {
        State before = now.copy();
        int answer;
        try {
            answer = c.make();
        } catch (LimitReached e) {
            answer = LIMIT;
        }
        if (answer <= INVALID) {
            before.putBack();
            now = before;
        } else {
            history.addLast(before);
            if (history.size() > 4) {
                history.removeFirst();
            }
        }
        return answer;
    }

    static TreeSet<Integer> literals(int bits) {
        TreeSet<Integer> set = new TreeSet<>();
        for (int l = 0; l < 12; l++) {
            if ((bits & (1 << l)) != 0) {
                set.add(l);
            }
        }
        return set;
    }

    private int key(int literal) {
        return now.rank[literal / 2] * 2 + literal % 2;
    }

    private int greatest(TreeSet<Integer> literals) {
        return literals.stream().max((x, y) -> Integer.compare(key(x), key(y))).orElse(-1);
    }

    private int comes(TreeSet<Integer> literals, Clause holding, Clause other, int atom) {
        for (int a = 0; a < 6; a++) {
            if (literals.contains(2 * a) && literals.contains(2 * a + 1)) {
                now.always++;
                return -1;
            }
        }
        for (Clause c : now.clauses) {
            if (c.status != Status.DROPPED && literals.containsAll(c.literals)) {
                now.within++;
                return -2;
            }
        }
        if (now.clauses.size() == 40) {
            throw new LimitReached();
        }
        for (Clause c : now.clauses) {
            if (c.literals.containsAll(literals)) {
                c.status = Status.DROPPED;
            }
        }
        now.clauses.add(new Clause(literals, holding, other, atom));
        return now.clauses.size() - 1;
    }

    private boolean hasEmpty() {
        return now.clauses.stream().anyMatch(c -> c.literals.isEmpty());
    }

    private int doStep() {
        List<Clause> open = new ArrayList<>();
        for (Clause c : now.clauses) {
            if (c.status == Status.OPEN) {
                open.add(c);
            }
        }
        if (open.isEmpty() || hasEmpty()) {
            return IMPOSSIBLE;
        }
        Clause chosen = open.get(0);
        if ((now.steps + 1) % now.setting != 0) {
            for (int size = 12; size >= 0; size--) {
                for (int i = open.size() - 1; i >= 0; i--) {
                    if (open.get(i).literals.size() == size) {
                        chosen = open.get(i);
                    }
                }
            }
        }
        now.steps++;
        chosen.status = Status.DONE;
        int l = greatest(chosen.literals);
        for (Clause c : new ArrayList<>(now.clauses)) {
            if (c == chosen || c.status != Status.DONE) {
                continue;
            }
            int m = greatest(c.literals);
            if (l / 2 != m / 2 || l == m) {
                continue;
            }
            TreeSet<Integer> resolvent = new TreeSet<>(chosen.literals);
            resolvent.addAll(c.literals);
            resolvent.remove(l);
            resolvent.remove(m);
            comes(resolvent, l < m ? chosen : c, l < m ? c : chosen, l / 2);
            if (hasEmpty() || chosen.status == Status.DROPPED) {
                break;
            }
        }
        return now.clauses.indexOf(chosen);
    }

    int tell(int bits) {
        return bits < 0 || bits > 4095 ? INVALID : change(() -> comes(literals(bits), null, null, -1));
    }

    int rank(int atom, int rank) {
        if (atom < 0 || atom > 5 || rank < 0 || rank > 5) {
            return INVALID;
        }
        return change(() -> {
            int former = now.rank[atom];
            for (int a = 0; a < 6; a++) {
                if (now.rank[a] == rank) {
                    now.rank[a] = former;
                }
            }
            now.rank[atom] = rank;
            for (Clause c : now.clauses) {
                if (c.status == Status.DONE) {
                    c.status = Status.OPEN;
                }
            }
            return former;
        });
    }

    int set(int value) {
        if (value < 1 || value > 9) {
            return INVALID;
        }
        return change(() -> {
            int former = now.setting;
            now.setting = value;
            return former;
        });
    }

    int step() {
        return change(this::doStep);
    }

    int run(int most) {
        if (most < 1 || most > 40) {
            return INVALID;
        }
        return change(() -> {
            int done = 0;
            while (done < most && doStep() != IMPOSSIBLE) {
                done++;
            }
            return done;
        });
    }

    int empty() {
        return change(() -> {
            int former = now.clauses.size();
            now.clauses = new ArrayList<>();
            now.steps = 0;
            return former;
        });
    }

    private Clause clause(int number) {
        return number >= 0 && number < now.clauses.size() ? now.clauses.get(number) : null;
    }

    int clauseOf(int number, int what) {
        Clause c = clause(number);
        if (c == null || what < 0 || what > 8) {
            return INVALID;
        }
        switch (what) {
            case 0: return c.literals.stream().mapToInt(l -> 1 << l).sum();
            case 1: return c.status.ordinal();
            case 2: return c.literals.isEmpty() ? MISSING : greatest(c.literals);
            case 3: return c.holding == null ? MISSING : now.clauses.indexOf(c.holding);
            case 4: return c.holding == null ? MISSING : now.clauses.indexOf(c.other);
            case 5: return c.holding == null ? MISSING : c.atom;
            case 6: return c.literals.size();
            case 7: return (int) now.clauses.stream().filter(d -> d.status != Status.DROPPED && isLess(d, c)).count();
            default: return c.depth();
        }
    }

    private boolean isLess(Clause some, Clause other) {
        TreeSet<Integer> onlySome = new TreeSet<>(some.literals);
        onlySome.removeAll(other.literals);
        TreeSet<Integer> onlyOther = new TreeSet<>(other.literals);
        onlyOther.removeAll(some.literals);
        if (onlyOther.isEmpty()) {
            return false;
        }
        return onlySome.isEmpty() || key(greatest(onlySome)) < key(greatest(onlyOther));
    }

    long tree(int number) {
        Clause c = clause(number);
        if (c == null) {
            return INVALID;
        }
        TreeSet<Integer> numbers = new TreeSet<>();
        c.collect(numbers, now.clauses);
        return numbers.stream().mapToLong(n -> 1L << n).sum();
    }

    int widest(int number) {
        Clause c = clause(number);
        if (c == null) {
            return INVALID;
        }
        TreeSet<Integer> numbers = new TreeSet<>();
        c.collect(numbers, now.clauses);
        return numbers.stream().mapToInt(n -> now.clauses.get(n).literals.size()).max().orElse(0);
    }

    int refutation() {
        for (int i = 0; i < now.clauses.size(); i++) {
            if (now.clauses.get(i).literals.isEmpty()) {
                return i;
            }
        }
        return MISSING;
    }

    private List<Clause> told() {
        List<Clause> told = new ArrayList<>();
        for (Clause c : now.clauses) {
            if (c.holding == null) {
                told.add(c);
            }
        }
        return told;
    }

    private static List<Integer> fulfilling(List<Clause> clauses) {
        List<Integer> found = new ArrayList<>();
        for (int v = 0; v < 64; v++) {
            final int values = v;
            if (clauses.stream().allMatch(c -> c.isFulfilledBy(values))) {
                found.add(v);
            }
        }
        return found;
    }

    int models() {
        return fulfilling(told()).size();
    }

    int model(int index) {
        if (index < 0) {
            return INVALID;
        }
        List<Integer> found = fulfilling(told());
        return index < found.size() ? found.get(index) : MISSING;
    }

    long broken(int values) {
        if (values < 0 || values > 63) {
            return INVALID;
        }
        long set = 0;
        for (int i = 0; i < now.clauses.size(); i++) {
            Clause c = now.clauses.get(i);
            if (c.status != Status.DROPPED && !c.isFulfilledBy(values)) {
                set += 1L << i;
            }
        }
        return set;
    }

    long core() {
        List<Clause> left = told();
        if (!fulfilling(left).isEmpty()) {
            return MISSING;
        }
        for (Clause c : told()) {
            List<Clause> others = new ArrayList<>(left);
            others.remove(c);
            if (fulfilling(others).isEmpty()) {
                left = others;
            }
        }
        return left.stream().mapToLong(c -> 1L << now.clauses.indexOf(c)).sum();
    }

    int follows(int bits) {
        if (bits < 0 || bits > 4095) {
            return INVALID;
        }
        Clause c = new Clause(literals(bits), null, null, -1);
        return fulfilling(told()).stream().allMatch(c::isFulfilledBy) ? 1 : 0;
    }

    int share(int bits) {
        if (bits < 0 || bits > 4095) {
            return INVALID;
        }
        int fulfilled = fulfilling(List.of(new Clause(literals(bits), null, null, -1))).size();
        return Float.floatToIntBits((float) fulfilled / 64);
    }

    int count(int what) {
        switch (what) {
            case 0: return now.clauses.size();
            case 1: case 2: case 3:
                return (int) now.clauses.stream().filter(c -> c.status.ordinal() == what - 1).count();
            case 4: return now.steps;
            case 5: return now.setting;
            case 6: return now.always;
            case 7: return now.within;
            case 8: return history.size();
            case 9: return text.length();
            default: return what >= 10 && what <= 15 ? now.rank[what - 10] : INVALID;
        }
    }

    int undo() {
        if (history.isEmpty()) {
            return IMPOSSIBLE;
        }
        now = history.removeLast();
        now.putBack();
        return history.size();
    }

    int type(int character) {
        if (character < 32 || character > 126) {
            return INVALID;
        }
        if (text.length() == 60) {
            return LIMIT;
        }
        text += (char) character;
        return text.length();
    }

    int clearText() {
        int former = text.length();
        text = "";
        return former;
    }

    /** Position and cause, or null: each clause is matched as long as it goes. */
    private int[] findFault() {
        int start = 0;
        while (start < text.length()) {
            String rest = text.substring(start);
            String literals = rest.replaceFirst("^((?:-?[a-f])*).*$", "$1");
            int end = literals.length();
            if (end < rest.length() && rest.charAt(end) == ';') {
                start += end + 1;
            } else {
                boolean sign = end < rest.length() && rest.charAt(end) == '-';
                return new int[] {start, sign ? end + 1 : end};
            }
        }
        return null;
    }

    int fault(int what) {
        if (what < 0 || what > 1) {
            return INVALID;
        }
        int[] fault = findFault();
        return fault == null ? MISSING : fault[what];
    }

    int play() {
        if (findFault() != null) {
            return IMPOSSIBLE;
        }
        return change(() -> {
            int came = 0;
            int start = 0;
            for (int end = text.indexOf(';'); end >= 0; end = text.indexOf(';', start)) {
                came += comes(read(text.substring(start, end)), null, null, -1) >= 0 ? 1 : 0;
                start = end + 1;
            }
            return came;
        });
    }

    private static TreeSet<Integer> read(String clause) {
        TreeSet<Integer> literals = new TreeSet<>();
        for (int i = 0; i < clause.length(); i++) {
            if (clause.charAt(i) != '-') {
                boolean sign = i > 0 && clause.charAt(i - 1) == '-';
                literals.add((clause.charAt(i) - 'a') * 2 + (sign ? 1 : 0));
            }
        }
        return literals;
    }
}
