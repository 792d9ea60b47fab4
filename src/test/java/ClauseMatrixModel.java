import java.util.ArrayList;
import java.util.HashSet;
import java.util.List;
import java.util.Random;
import java.util.Set;
import java.util.TreeSet;

/**
 * Makes many runs of calls, the same each time, and compares each answer with that of a model
 * that follows the document's words as plainly as can be, without a thought to cost.
 */
public final class ClauseMatrixModel {
    private static final int RUNS = 6000;
    private static final int MOST_CALLS = 512;

    private ClauseMatrixModel() {
    }

    public static void main(String[] args) {
        Tally tally = new Tally();
        int wrong = 0;
        for (int run = 0; run < RUNS && wrong < 10; run++) {
            if (!new Run(run, tally).isAsDue()) {
                wrong++;
            }
        }
        boolean telling = tally.tooBig > 100 && tally.big > 100 && tally.withGap > 1000
            && tally.withoutGap > 300 && tally.shared > 300 && tally.caught > 1000 && tally.useless > 300;
        System.out.println(tally);
        System.out.println(wrong == 0 ? "all runs answer as the model does" : wrong + " runs went wrong");
        if (!telling) {
            System.out.println("the runs are too poor to tell anything");
        }
        if (wrong != 0 || !telling) {
            System.exit(1);
        }
    }

    /** What the runs came upon, so that a poor choice of calls does not pass for a test. */
    private static final class Tally {
        int calls;
        int trees;
        int tooBig;
        int big;
        int withGap;
        int withoutGap;
        int shared;
        int useless;
        int caught;

        @Override
        public String toString() {
            return calls + " calls, " + trees + " trees: " + tooBig + " too big, " + big + " of 40 to 60, "
                + withGap + " with a witness, " + withoutGap + " without, " + shared + " with alike parts, "
                + useless + " with useless alternatives; " + caught + " values caught";
        }
    }

    // ---- the model ----

    private static final class Pattern {
        final char shape;
        final int symbol;
        final Pattern first;
        final Pattern second;
        final int type;

        Pattern(char shape, int symbol, Pattern first, Pattern second, int type) {
            this.shape = shape;
            this.symbol = symbol;
            this.first = first;
            this.second = second;
            this.type = type;
        }

        boolean fitsType(int t) {
            return type == -1 || type == t;
        }

        int depth() {
            int below = Math.max(first == null ? 0 : first.depth(), second == null ? 0 : second.depth());
            return shape == 'E' ? below : below + 1;
        }

        List<Pattern> alternatives() {
            List<Pattern> all = new ArrayList<>();
            if (shape == 'E') {
                all.addAll(first.alternatives());
                all.addAll(second.alternatives());
            } else if (first == null) {
                all.add(this);
            } else {
                for (Pattern a : first.alternatives()) {
                    if (second == null) {
                        all.add(new Pattern(shape, symbol, a, null, type));
                        continue;
                    }
                    for (Pattern b : second.alternatives()) {
                        all.add(new Pattern(shape, symbol, a, b, type));
                    }
                }
            }
            return all;
        }

        /** What stands at a place; null when nothing does. */
        Pattern at(int place) {
            if (place == 1) {
                return this;
            }
            Pattern above = at(place / 2);
            if (above == null) {
                return null;
            }
            return place % 2 == 0 ? above.first : above.second;
        }

        boolean asksAt(int place) {
            Pattern there = at(place);
            return there != null && there.shape != 'A';
        }

        boolean fits(Value v) {
            switch (shape) {
                case 'A':
                    return true;
                case 'N':
                    return v.symbol == symbol;
                case 'E':
                    return first.fits(v) || second.fits(v);
                default:
                    return v.symbol == symbol && (first == null || first.fits(v.first))
                        && (second == null || second.fits(v.second));
            }
        }
    }

    private static final class Value {
        final int type;
        final int symbol;
        final Value first;
        final Value second;

        Value(int type, int symbol, Value first, Value second) {
            this.type = type;
            this.symbol = symbol;
            this.first = first;
            this.second = second;
        }

        Value at(int place) {
            if (place == 1) {
                return this;
            }
            Value above = at(place / 2);
            return place % 2 == 0 ? above.first : above.second;
        }
    }

    private static final class Node {
        int clause = -1;
        int place;
        int type;
        final List<Integer> labels = new ArrayList<>();
        final List<Node> branches = new ArrayList<>();

        boolean isFail() {
            return place == 0 && clause == -1;
        }

        String text() {
            if (place == 0) {
                return "leaf " + clause;
            }
            StringBuilder all = new StringBuilder("(" + place + " of " + type + " by " + labels);
            for (Node branch : branches) {
                all.append(' ').append(branch.text());
            }
            return all.append(')').toString();
        }

        void addKinds(Set<String> kinds) {
            kinds.add(text());
            for (Node branch : branches) {
                branch.addKinds(kinds);
            }
        }

        int longest() {
            int most = 0;
            for (Node branch : branches) {
                most = Math.max(most, 1 + branch.longest());
            }
            return most;
        }

        void addClauses(Set<Integer> clauses) {
            clauses.add(clause);
            for (Node branch : branches) {
                branch.addClauses(clauses);
            }
        }

        /** The branches of the way to the first leaf FAIL, from the last one up. */
        boolean wayToFail(List<Node> tests, List<Integer> taken) {
            if (isFail()) {
                return true;
            }
            for (int i = 0; i < branches.size(); i++) {
                if (branches.get(i).wayToFail(tests, taken)) {
                    tests.add(this);
                    taken.add(i);
                    return true;
                }
            }
            return false;
        }
    }

    private static final class Model {
        int types;
        final List<int[]> constructors = new ArrayList<>();
        final List<Pattern> patterns = new ArrayList<>();
        final List<Value> values = new ArrayList<>();
        final List<Pattern> rows = new ArrayList<>();
        final List<Pattern> clauses = new ArrayList<>();
        final List<int[]> rowAndAlternative = new ArrayList<>();
        int over = -1;
        Node top;
        int size;
        final List<int[]> witness = new ArrayList<>();
        int tests;

        void clear() {
            types = 0;
            constructors.clear();
            patterns.clear();
            values.clear();
            rows.clear();
            clauses.clear();
            rowAndAlternative.clear();
            over = -1;
            top = null;
            tests = 0;
        }

        int type() {
            if (over != -1) {
                return -2;
            }
            if (types == 5) {
                return -8;
            }
            return ++types;
        }

        int constructor(int t, int a, int b) {
            if (over != -1) {
                return -2;
            }
            if (t < 1 || t > types || a < -1 || a > types || b < -1 || b > types || a == -1 && b != -1) {
                return -3;
            }
            if (constructorsOf(t).size() == 4 || constructors.size() == 12) {
                return -8;
            }
            constructors.add(new int[] {t, a, b});
            return constructors.size() - 1;
        }

        List<Integer> constructorsOf(int t) {
            List<Integer> all = new ArrayList<>();
            for (int c = 0; c < constructors.size(); c++) {
                if (constructors.get(c)[0] == t) {
                    all.add(c);
                }
            }
            return all;
        }

        int begin(int t) {
            if (over != -1) {
                return -2;
            }
            if (t < 0 || t > types) {
                return -3;
            }
            Set<Integer> filled = new HashSet<>(List.of(-1, 0));
            for (int before = 0; before != filled.size();) {
                before = filled.size();
                for (int[] c : constructors) {
                    if (filled.contains(c[1]) && filled.contains(c[2])) {
                        filled.add(c[0]);
                    }
                }
            }
            if (filled.size() != types + 2) {
                return -11;
            }
            over = t;
            return 0;
        }

        int keep(Pattern p) {
            if (patterns.size() == 60) {
                return -8;
            }
            patterns.add(p);
            return patterns.size() - 1;
        }

        Pattern pattern(int p) {
            return p >= 0 && p < patterns.size() ? patterns.get(p) : null;
        }

        Value value(int v) {
            return v >= 0 && v < values.size() ? values.get(v) : null;
        }

        int build(int c, int p, int q) {
            if (c < 0 || c >= constructors.size()) {
                return -4;
            }
            int[] of = constructors.get(c);
            if (of[1] == -1 ? p != -1 : pattern(p) == null) {
                return -5;
            }
            if (of[2] == -1 ? q != -1 : pattern(q) == null) {
                return -5;
            }
            if (of[1] != -1 && !pattern(p).fitsType(of[1]) || of[2] != -1 && !pattern(q).fitsType(of[2])) {
                return -7;
            }
            Pattern made = new Pattern('B', c, pattern(p), pattern(q), of[0]);
            if (made.depth() > 4) {
                return -9;
            }
            return made.alternatives().size() > 8 ? -10 : keep(made);
        }

        int either(int p, int q) {
            Pattern a = pattern(p);
            Pattern b = pattern(q);
            if (a == null || b == null) {
                return -5;
            }
            if (a.type != -1 && b.type != -1 && a.type != b.type) {
                return -7;
            }
            Pattern made = new Pattern('E', 0, a, b, a.type == -1 ? b.type : a.type);
            return made.alternatives().size() > 8 ? -10 : keep(made);
        }

        int row(int p) {
            if (over == -1) {
                return -12;
            }
            Pattern itself = pattern(p);
            if (itself == null) {
                return -5;
            }
            if (!itself.fitsType(over)) {
                return -7;
            }
            List<Pattern> added = itself.alternatives();
            if (rows.size() == 8 || clauses.size() + added.size() > 16) {
                return -8;
            }
            for (int i = 0; i < added.size(); i++) {
                clauses.add(added.get(i));
                rowAndAlternative.add(new int[] {rows.size(), i});
            }
            rows.add(itself);
            top = null;
            return rows.size() - 1;
        }

        int compile() {
            if (over == -1) {
                return -12;
            }
            List<Integer> all = new ArrayList<>();
            for (int i = 0; i < clauses.size(); i++) {
                all.add(i);
            }
            size = 0;
            top = grow(all, new TreeSet<>(Set.of(1)));
            if (top == null) {
                return -14;
            }
            findWitness();
            return size;
        }

        /** Null when the tree is too big. */
        Node grow(List<Integer> left, TreeSet<Integer> open) {
            Node node = new Node();
            if (++size > 60) {
                return null;
            }
            if (left.isEmpty()) {
                return node;
            }
            int best = 0;
            for (int place : open) {
                if (clauses.get(left.get(0)).asksAt(place) && asking(left, place) > (best == 0 ? 0 : asking(left, best))) {
                    best = place;
                }
            }
            if (best == 0) {
                node.clause = left.get(0);
                return node;
            }
            node.place = best;
            node.type = clauses.get(left.get(0)).at(best).type;
            if (node.type == 0) {
                TreeSet<Integer> numbers = new TreeSet<>();
                for (int clause : left) {
                    if (clauses.get(clause).asksAt(best)) {
                        numbers.add(clauses.get(clause).at(best).symbol);
                    }
                }
                node.labels.addAll(numbers);
            } else {
                node.labels.addAll(constructorsOf(node.type));
            }
            return growBranches(node, left, open) ? node : null;
        }

        boolean growBranches(Node node, List<Integer> left, TreeSet<Integer> open) {
            int branches = node.labels.size() + (node.type == 0 ? 1 : 0);
            for (int i = 0; i < branches; i++) {
                List<Integer> kept = new ArrayList<>();
                for (int clause : left) {
                    boolean asks = clauses.get(clause).asksAt(node.place);
                    if (!asks || i < node.labels.size()
                        && clauses.get(clause).at(node.place).symbol == node.labels.get(i)) {
                        kept.add(clause);
                    }
                }
                TreeSet<Integer> opened = new TreeSet<>(open);
                opened.remove(node.place);
                if (node.type != 0) {
                    int[] of = constructors.get(node.labels.get(i));
                    for (int argument = 1; argument <= 2; argument++) {
                        if (of[argument] != -1) {
                            opened.add(2 * node.place + argument - 1);
                        }
                    }
                }
                Node branch = grow(kept, opened);
                if (branch == null) {
                    return false;
                }
                node.branches.add(branch);
            }
            return true;
        }

        int asking(List<Integer> left, int place) {
            int count = 0;
            for (int clause : left) {
                count += clauses.get(clause).asksAt(place) ? 1 : 0;
            }
            return count;
        }

        void findWitness() {
            witness.clear();
            List<Node> tests = new ArrayList<>();
            List<Integer> taken = new ArrayList<>();
            if (top.wayToFail(tests, taken)) {
                addWitness(1, tests, taken);
            }
        }

        void addWitness(int place, List<Node> tests, List<Integer> taken) {
            for (int i = 0; i < tests.size(); i++) {
                Node test = tests.get(i);
                if (test.place != place) {
                    continue;
                }
                if (taken.get(i) == test.labels.size()) {
                    int free = 0;
                    while (test.labels.contains(free)) {
                        free++;
                    }
                    witness.add(new int[] {1, free});
                    return;
                }
                int symbol = test.labels.get(taken.get(i));
                witness.add(new int[] {test.type == 0 ? 1 : 2, symbol});
                for (int argument = 1; argument <= 2 && test.type != 0; argument++) {
                    if (constructors.get(symbol)[argument] != -1) {
                        addWitness(2 * place + argument - 1, tests, taken);
                    }
                }
                return;
            }
            witness.add(new int[] {0, 0});
        }

        int kinds() {
            if (top == null) {
                return -13;
            }
            Set<String> kinds = new HashSet<>();
            top.addKinds(kinds);
            return kinds.size();
        }

        int useless(int r) {
            if (top == null) {
                return -13;
            }
            if (r < 0 || r >= rows.size()) {
                return -15;
            }
            Set<Integer> leaves = new HashSet<>();
            top.addClauses(leaves);
            int sum = 0;
            for (int i = 0; i < clauses.size(); i++) {
                int[] origin = rowAndAlternative.get(i);
                if (origin[0] == r && !leaves.contains(i)) {
                    sum += (int) Math.pow(2, origin[1]);
                }
            }
            return sum;
        }

        int witnessKind(int i) {
            if (top == null) {
                return -13;
            }
            return i < 0 || i >= witness.size() ? -15 : witness.get(i)[0];
        }

        int witness(int i) {
            return top == null || i < 0 || i >= witness.size() ? 0 : witness.get(i)[1];
        }

        int keep(Value v) {
            if (values.size() == 60) {
                return -8;
            }
            values.add(v);
            return values.size() - 1;
        }

        int valueOf(int c, int x, int y) {
            if (c < 0 || c >= constructors.size()) {
                return -4;
            }
            int[] of = constructors.get(c);
            if (of[1] == -1 ? x != -1 : value(x) == null) {
                return -6;
            }
            if (of[2] == -1 ? y != -1 : value(y) == null) {
                return -6;
            }
            if (of[1] != -1 && value(x).type != of[1] || of[2] != -1 && value(y).type != of[2]) {
                return -7;
            }
            return keep(new Value(of[0], c, value(x), value(y)));
        }

        /** The row comes from the rows themselves, not from the tree. */
        int run(int v) {
            if (top == null) {
                return -13;
            }
            Value itself = value(v);
            if (itself == null) {
                return -6;
            }
            if (itself.type != over) {
                return -7;
            }
            tests = 0;
            for (Node node = top; node.place != 0; tests++) {
                int branch = node.labels.indexOf(itself.at(node.place).symbol);
                node = node.branches.get(branch == -1 ? node.labels.size() : branch);
            }
            for (int r = 0; r < rows.size(); r++) {
                if (rows.get(r).fits(itself)) {
                    return r;
                }
            }
            return -1;
        }
    }

    // ---- one run of calls ----

    private static final class Run {
        private final int number;
        private final Tally tally;
        private final Random random;
        private final ClauseMatrix program = new ClauseMatrix();
        private final Model model = new Model();
        private final StringBuilder told = new StringBuilder();
        private int calls = 0;
        private boolean right = true;

        Run(int number, Tally tally) {
            this.number = number;
            this.tally = tally;
            this.random = new Random(number);
        }

        boolean isAsDue() {
            while (right && calls < MOST_CALLS) {
                declare();
                match();
                if (random.nextInt(3) == 0) {
                    break;
                }
                if (calls < MOST_CALLS) {
                    tell("clear()", 0, 0);
                    program.clear();
                    model.clear();
                }
            }
            tally.calls += calls;
            if (!right) {
                System.out.println("run " + number + ":\n" + told);
            }
            return right;
        }

        private void tell(String call, int got, int want) {
            calls++;
            told.append("  ").append(call).append(" answered ").append(got);
            if (got != want) {
                right = false;
                told.append(", due is ").append(want);
            }
            told.append('\n');
        }

        private boolean goesOn() {
            return right && calls < MOST_CALLS;
        }

        private boolean chance(int percent) {
            return random.nextInt(100) < percent;
        }

        private int within(int low, int high) {
            return low + random.nextInt(high - low + 1);
        }

        private int odd() {
            int[] all = {-2, -1, 60, 1000, Integer.MIN_VALUE, Integer.MAX_VALUE};
            return all[random.nextInt(all.length)];
        }

        private int smallNumber() {
            if (chance(4)) {
                return chance(50) ? Integer.MIN_VALUE : Integer.MAX_VALUE;
            }
            return within(-2, 3);
        }

        private void declare() {
            int types = chance(10) ? 6 : within(0, 3);
            for (int i = 0; i < types && goesOn(); i++) {
                tell("type()", program.type(), model.type());
            }
            int constructors = chance(10) ? 16 : within(0, 3 * model.types);
            for (int i = 0; i < constructors && goesOn(); i++) {
                constructor(within(1, Math.max(1, model.types)));
            }
            for (int t = 1; t <= model.types && chance(97) && goesOn(); t++) {
                if (model.constructorsOf(t).isEmpty() || chance(30)) {
                    call3("constructor", t, -1, -1);
                }
            }
            if (goesOn()) {
                int t = chance(95) ? within(Math.min(1, model.types), model.types) : odd();
                tell("begin(" + t + ")", program.begin(t), model.begin(t));
            }
        }

        private void constructor(int t) {
            if (chance(6)) {
                call3("constructor", chance(50) ? t : odd(), chance(50) ? odd() : 0, chance(50) ? odd() : 0);
                return;
            }
            int a = chance(30) ? -1 : within(0, model.types);
            int b = a == -1 || chance(30) ? -1 : within(0, model.types);
            call3("constructor", t, a, b);
        }

        private void call3(String name, int c, int p, int q) {
            if (!goesOn()) {
                return;
            }
            String call = name + "(" + c + ", " + p + ", " + q + ")";
            switch (name) {
                case "constructor":
                    tell(call, program.constructor(c, p, q), model.constructor(c, p, q));
                    break;
                case "build":
                    tell(call, program.build(c, p, q), model.build(c, p, q));
                    break;
                default:
                    tell(call, program.valueOf(c, p, q), model.valueOf(c, p, q));
                    break;
            }
        }

        private void match() {
            int steps = within(10, 240);
            for (int i = 0; i < steps && goesOn(); i++) {
                int what = random.nextInt(100);
                if (what < 4) {
                    tell("any()", program.any(), model.keep(new Pattern('A', 0, null, null, -1)));
                } else if (what < 12) {
                    int v = smallNumber();
                    tell("number(" + v + ")", program.number(v), model.keep(new Pattern('N', v, null, null, 0)));
                } else if (what < 45) {
                    build();
                } else if (what < 55) {
                    either();
                } else if (what < 65) {
                    row();
                } else if (what < 70) {
                    int v = smallNumber();
                    tell("valueNumber(" + v + ")", program.valueNumber(v), model.keep(new Value(0, v, null, null)));
                } else if (what < 90) {
                    value();
                } else if (what < 96) {
                    compile();
                } else {
                    oddCall();
                }
            }
            if (goesOn()) {
                compile();
            }
        }

        private int patternFor(int type) {
            if (type == -1) {
                return chance(3) ? odd() : -1;
            }
            int found = model.patterns.isEmpty() || chance(2) ? odd() : random.nextInt(model.patterns.size());
            for (int i = 0; i < 20; i++) {
                if (model.pattern(found) != null && model.pattern(found).fitsType(type)) {
                    return found;
                }
                found = model.patterns.isEmpty() ? odd() : random.nextInt(model.patterns.size());
            }
            return found;
        }

        private int valueFor(int type) {
            if (type == -1) {
                return chance(3) ? odd() : -1;
            }
            int found = model.values.isEmpty() || chance(2) ? odd() : random.nextInt(model.values.size());
            for (int i = 0; i < 20; i++) {
                if (model.value(found) != null && model.value(found).type == type) {
                    return found;
                }
                found = model.values.isEmpty() ? odd() : random.nextInt(model.values.size());
            }
            return found;
        }

        private void build() {
            if (model.constructors.isEmpty() || chance(2)) {
                call3("build", odd(), odd(), odd());
                return;
            }
            int c = random.nextInt(model.constructors.size());
            int[] of = model.constructors.get(c);
            call3("build", c, patternFor(of[1]), patternFor(of[2]));
        }

        private void value() {
            if (model.constructors.isEmpty() || chance(2)) {
                call3("valueOf", odd(), odd(), odd());
                return;
            }
            int c = random.nextInt(model.constructors.size());
            int[] of = model.constructors.get(c);
            call3("valueOf", c, valueFor(of[1]), valueFor(of[2]));
        }

        private void either() {
            int p = model.patterns.isEmpty() || chance(2) ? odd() : random.nextInt(model.patterns.size());
            Pattern first = model.pattern(p);
            int q = first == null || first.type == -1 || chance(5) ? patternFor(within(0, model.types)) : patternFor(first.type);
            tell("either(" + p + ", " + q + ")", program.either(p, q), model.either(p, q));
        }

        private void row() {
            int p = model.over == -1 || chance(3) ? within(-1, model.patterns.size()) : patternFor(model.over);
            for (int i = 0; i < 6 && model.pattern(p) != null; i++) {
                int other = patternFor(model.over);
                if (model.pattern(other) != null && model.pattern(other).depth() > model.pattern(p).depth()) {
                    p = other;
                }
            }
            // A row that is ANY ends what a match can tell, so most of them are left out.
            if (model.pattern(p) != null && model.pattern(p).type == -1 && chance(90)) {
                return;
            }
            tell("row(" + p + ")", program.row(p), model.row(p));
        }

        private void compile() {
            int size = model.compile();
            tell("compile()", program.compile(), size);
            tally.trees++;
            tally.tooBig += size == -14 ? 1 : 0;
            tally.big += size >= 40 ? 1 : 0;
            boolean useless = false;
            if (goesOn()) {
                int kinds = model.kinds();
                tell("kinds()", program.kinds(), kinds);
                tally.shared += size > 0 && kinds < size ? 1 : 0;
            }
            if (goesOn()) {
                tell("longest()", program.longest(), model.top == null ? -13 : model.top.longest());
            }
            for (int r = chance(10) ? -1 : 0; r < model.rows.size() + (chance(10) ? 1 : 0) && goesOn(); r++) {
                tell("useless(" + r + ")", program.useless(r), model.useless(r));
                useless |= model.useless(r) > 0;
            }
            tally.useless += useless ? 1 : 0;
            witness();
            for (int v = 0; v < model.values.size() && goesOn(); v++) {
                if (chance(50)) {
                    runValue(v);
                }
            }
        }

        private void witness() {
            if (!goesOn()) {
                return;
            }
            int length = model.top == null ? -13 : model.witness.size();
            tell("witnessLength()", program.witnessLength(), length);
            tally.withGap += length > 0 ? 1 : 0;
            tally.withoutGap += length == 0 ? 1 : 0;
            for (int i = 0; i < length + (chance(10) ? 1 : 0) && goesOn(); i++) {
                tell("witnessKind(" + i + ")", program.witnessKind(i), model.witnessKind(i));
                if (goesOn()) {
                    tell("witness(" + i + ")", program.witness(i), model.witness(i));
                }
            }
        }

        private void runValue(int v) {
            int row = model.run(v);
            tell("run(" + v + ")", program.run(v), row);
            tally.caught += row >= 0 ? 1 : 0;
            if (goesOn()) {
                tell("tests()", program.tests(), model.tests);
            }
        }

        private void oddCall() {
            int i = odd();
            switch (random.nextInt(8)) {
                case 0:
                    tell("type()", program.type(), model.type());
                    break;
                case 1:
                    call3("constructor", 1, -1, -1);
                    break;
                case 2:
                    tell("begin(0)", program.begin(0), model.begin(0));
                    break;
                case 3:
                    tell("useless(" + i + ")", program.useless(i), model.useless(i));
                    break;
                case 4:
                    tell("witnessKind(" + i + ")", program.witnessKind(i), model.witnessKind(i));
                    break;
                case 5:
                    tell("witness(" + i + ")", program.witness(i), model.witness(i));
                    break;
                case 6:
                    runValue(i);
                    break;
                default:
                    tell("tests()", program.tests(), model.tests);
                    break;
            }
        }
    }
}
