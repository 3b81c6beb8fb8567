/**
 * Parses rows of tokens by any grammar that does not call itself at its left: the first tree in
 * the order of alternatives, how many trees there are, how far each decision had to look, and
 * where a row goes wrong, with what could have come there.
 *
 * <p>All rows that a call works in are made once, with the object, and used again by every call;
 * only the rows of the walk are made when a tree first needs them, since few trees need many.
 */
public final class FirstTrees {
    public static final int NONE = -1;

    private static final int MOST_RULES = 16;
    private static final int MOST_ALTERNATIVES = 8;
    private static final int MOST_SYMBOLS = 8;
    private static final int MOST_ROWS = MOST_RULES * MOST_ALTERNATIVES;
    private static final int TOKENS = 32;
    private static final int END = 32;
    private static final int MOST_INPUT = 60;
    private static final int PLACES = MOST_INPUT + 1;
    private static final int MOST_NODES = 2000;
    private static final int MOST_TREES = 1000000000;

    private static final int RIGHT = 0;
    private static final int NO_RULE = 1;
    private static final int SYMBOL_NOT_THERE = 2;
    private static final int NO_ALTERNATIVE = 3;
    private static final int AT_OWN_LEFT = 4;

    private final Grammar grammar;
    private final Study study;
    private final Input input;
    private final Chart chart;
    private final Ways ways;
    private final Walk walk;
    private Tree tree;
    private Tree spare;

    public FirstTrees() {
        grammar = new Grammar();
        study = new Study(grammar);
        input = new Input();
        chart = new Chart(grammar, study, input);
        ways = new Ways(grammar, study, input, chart);
        walk = new Walk(grammar, input, chart);
        tree = new Tree();
        spare = new Tree();
    }

    public int rule() throws UnsupportedOperationException {
        if (grammar.rules() == MOST_RULES) {
            throw new UnsupportedOperationException("there are 16 rules");
        }
        study.outdate();
        return grammar.addRule();
    }

    public int alternative(int rule)
            throws IndexOutOfBoundsException, UnsupportedOperationException {
        mustBeRule(rule);
        if (grammar.alternatives(rule) == MOST_ALTERNATIVES) {
            throw new UnsupportedOperationException("there are 8 alternatives");
        }
        study.outdate();
        return grammar.addAlternative(rule);
    }

    public int symbol(int rule, int symbol)
            throws IndexOutOfBoundsException, IllegalArgumentException, IllegalStateException,
                    UnsupportedOperationException {
        mustBeRule(rule);
        if (symbol < -MOST_RULES || symbol >= TOKENS) {
            throw new IllegalArgumentException("no such symbol");
        }
        if (grammar.alternatives(rule) == 0) {
            throw new IllegalStateException("the rule has no alternative");
        }
        if (grammar.length(grammar.latestRow(rule)) == MOST_SYMBOLS) {
            throw new UnsupportedOperationException("there are 8 symbols");
        }
        study.outdate();
        return grammar.addSymbol(rule, symbol);
    }

    public int clear() {
        study.outdate();
        return grammar.loseRules();
    }

    public int fault() {
        study.bringUpToDate();
        return study.faultKind();
    }

    public int faulty() {
        study.bringUpToDate();
        return study.faultyRule();
    }

    public int token(int t) throws IllegalArgumentException, UnsupportedOperationException {
        if (t < 0 || t >= TOKENS) {
            throw new IllegalArgumentException("no such token");
        }
        if (input.size() == MOST_INPUT) {
            throw new UnsupportedOperationException("there are 60 tokens");
        }
        return input.add(t);
    }

    public void keep(int n) throws IllegalArgumentException {
        if (n < 0 || n > input.size()) {
            throw new IllegalArgumentException("the input has not so many tokens");
        }
        input.cut(n);
    }

    public int parse() throws IllegalStateException, UnsupportedOperationException {
        mustBeRight();
        chart.fill(input.size());
        if (!chart.hasTree()) {
            tree.empty();
            return 0;
        }
        // The tree before stays untouched until the new one is known to be small enough.
        if (!walk.derive(spare)) {
            throw new UnsupportedOperationException("the first tree has more than 2000 nodes");
        }
        Tree before = tree;
        tree = spare;
        spare = before;
        return ways.ofWholeInput();
    }

    public int nodes() {
        return tree.size();
    }

    public int node(int i, int what) throws IndexOutOfBoundsException, IllegalArgumentException {
        if (i < 0 || i >= tree.size()) {
            throw new IndexOutOfBoundsException("no such node");
        }
        if (what < 0 || what >= Tree.FACTS) {
            throw new IllegalArgumentException("nothing of a node is told by that number");
        }
        return tree.fact(i, what);
    }

    public int reach() throws IllegalStateException {
        mustBeRight();
        chart.fill(input.size());
        return chart.hasTree() ? input.size() + 1 : chart.farOfAll();
    }

    public long expected(int place) throws IllegalStateException, IllegalArgumentException {
        mustBeRight();
        if (place < 0 || place > input.size()) {
            throw new IllegalArgumentException("no such place");
        }
        chart.fill(place);
        return chart.soonOfAll() | (chart.hasTree() ? 1L << END : 0L);
    }

    public boolean isNothing(int rule) throws IllegalStateException, IndexOutOfBoundsException {
        mustBeRight();
        mustBeRule(rule);
        return study.ruleIsNothing(rule);
    }

    public long first(int rule) throws IllegalStateException, IndexOutOfBoundsException {
        mustBeRight();
        mustBeRule(rule);
        return study.ruleFirst(rule);
    }

    public long following(int rule) throws IllegalStateException, IndexOutOfBoundsException {
        mustBeRight();
        mustBeRule(rule);
        return study.ruleFollowing(rule);
    }

    public int lets(int rule, int t)
            throws IllegalStateException, IndexOutOfBoundsException, IllegalArgumentException {
        mustBeRight();
        mustBeRule(rule);
        if (t < 0 || t > END) {
            throw new IllegalArgumentException("no such token");
        }
        return study.letIn(rule, t);
    }

    public int count(int what) throws IllegalArgumentException {
        if (what < 0 || what >= 2 + MOST_RULES) {
            throw new IllegalArgumentException("nothing is counted by that number");
        }
        if (what == 0) {
            return grammar.rules();
        }
        return what == 1 ? input.size() : grammar.alternatives(what - 2);
    }

    private void mustBeRule(int rule) {
        if (rule < 0 || rule >= grammar.rules()) {
            throw new IndexOutOfBoundsException("no such rule");
        }
    }

    private void mustBeRight() {
        study.bringUpToDate();
        if (study.faultKind() != RIGHT) {
            throw new IllegalStateException("the grammar is not right");
        }
    }

    private static boolean has(long set, int member) {
        return (set >>> member & 1L) != 0;
    }

    /** The rules; to the other classes an alternative is a ROW, with a number over all rules. */
    private static final class Grammar {
        private int rules;
        private final int[] alternatives = new int[MOST_RULES];
        private final int[] lengths = new int[MOST_ROWS];
        private final int[] symbols = new int[MOST_ROWS * MOST_SYMBOLS];

        static boolean isToken(int symbol) {
            return symbol >= 0;
        }

        static int ruleOf(int symbol) {
            return -1 - symbol;
        }

        static int row(int rule, int alternative) {
            return rule * MOST_ALTERNATIVES + alternative;
        }

        int addRule() {
            alternatives[rules] = 0;
            rules++;
            return rules - 1;
        }

        int addAlternative(int rule) {
            alternatives[rule]++;
            lengths[latestRow(rule)] = 0;
            return alternatives[rule] - 1;
        }

        int addSymbol(int rule, int symbol) {
            int row = latestRow(rule);
            symbols[row * MOST_SYMBOLS + lengths[row]] = symbol;
            lengths[row]++;
            return lengths[row];
        }

        int loseRules() {
            int lost = rules;
            rules = 0;
            return lost;
        }

        int rules() {
            return rules;
        }

        int alternatives(int rule) {
            return rule < rules ? alternatives[rule] : 0;
        }

        int latestRow(int rule) {
            return row(rule, alternatives[rule] - 1);
        }

        int length(int row) {
            return lengths[row];
        }

        int symbolAt(int row, int k) {
            return symbols[row * MOST_SYMBOLS + k];
        }

        int rulesIn(int row) {
            int found = 0;
            for (int k = 0; k < lengths[row]; k++) {
                if (!isToken(symbolAt(row, k))) {
                    found++;
                }
            }
            return found;
        }
    }

    /** What the grammar says without an input; made anew only after the grammar has changed. */
    private static final class Study {
        private final Grammar grammar;
        private boolean current;
        private int fault;
        private int faulty;
        private int nothing;
        private final int[] left = new int[MOST_RULES];
        private final int[] order = new int[MOST_RULES];
        private final long[] firsts = new long[MOST_RULES];
        private final long[] followings = new long[MOST_RULES];

        Study(Grammar grammar) {
            this.grammar = grammar;
        }

        void outdate() {
            current = false;
        }

        /** Comes before every question. */
        void bringUpToDate() {
            if (current) {
                return;
            }
            current = true;
            findNothing();
            findLeft();
            findFault();
            if (fault == RIGHT) {
                findOrder();
                findFirsts();
                findFollowings();
            }
        }

        int faultKind() {
            return fault;
        }

        int faultyRule() {
            return faulty;
        }

        /** The k-th rule when each rule comes behind those that are at its left. */
        int inOrder(int k) {
            return order[k];
        }

        boolean ruleIsNothing(int rule) {
            return has(nothing, rule);
        }

        long ruleFirst(int rule) {
            return firsts[rule];
        }

        long ruleFollowing(int rule) {
            return followings[rule];
        }

        int letIn(int rule, int t) {
            int in = 0;
            for (int k = 0; k < grammar.alternatives(rule); k++) {
                int row = Grammar.row(rule, k);
                if (has(rowFirst(row), t) || rowIsNothing(row) && has(followings[rule], t)) {
                    in |= 1 << k;
                }
            }
            return in;
        }

        private void findNothing() {
            nothing = 0;
            boolean changed = true;
            for (int pass = 0; pass <= MOST_RULES && changed; pass++) {
                int before = nothing;
                for (int rule = 0; rule < grammar.rules(); rule++) {
                    for (int k = 0; k < grammar.alternatives(rule); k++) {
                        if (rowIsNothing(Grammar.row(rule, k))) {
                            nothing |= 1 << rule;
                        }
                    }
                }
                changed = nothing != before;
            }
        }

        private boolean rowIsNothing(int row) {
            for (int k = 0; k < grammar.length(row); k++) {
                if (!symbolIsNothing(grammar.symbolAt(row, k))) {
                    return false;
                }
            }
            return true;
        }

        private boolean symbolIsNothing(int symbol) {
            return !Grammar.isToken(symbol) && has(nothing, Grammar.ruleOf(symbol));
        }

        private void findLeft() {
            for (int rule = 0; rule < grammar.rules(); rule++) {
                left[rule] = 0;
                for (int k = 0; k < grammar.alternatives(rule); k++) {
                    left[rule] |= rulesAtLeft(Grammar.row(rule, k));
                }
            }
            for (int between = 0; between < grammar.rules(); between++) {
                for (int rule = 0; rule < grammar.rules(); rule++) {
                    if (has(left[rule], between)) {
                        left[rule] |= left[between];
                    }
                }
            }
        }

        private int rulesAtLeft(int row) {
            int found = 0;
            for (int k = 0; k < grammar.length(row); k++) {
                int symbol = grammar.symbolAt(row, k);
                if (!Grammar.isToken(symbol)) {
                    found |= 1 << Grammar.ruleOf(symbol);
                }
                if (!symbolIsNothing(symbol)) {
                    break;
                }
            }
            return found;
        }

        private void findFault() {
            fault = grammar.rules() == 0 ? NO_RULE : RIGHT;
            faulty = NONE;
            for (int kind = SYMBOL_NOT_THERE; kind <= AT_OWN_LEFT && fault == RIGHT; kind++) {
                for (int rule = grammar.rules() - 1; rule >= 0; rule--) {
                    if (hasFault(rule, kind)) {
                        fault = kind;
                        faulty = rule;
                    }
                }
            }
        }

        private boolean hasFault(int rule, int kind) {
            if (kind == SYMBOL_NOT_THERE) {
                return hasSymbolNotThere(rule);
            }
            if (kind == NO_ALTERNATIVE) {
                return grammar.alternatives(rule) == 0;
            }
            return has(left[rule], rule);
        }

        private boolean hasSymbolNotThere(int rule) {
            for (int alternative = 0; alternative < grammar.alternatives(rule); alternative++) {
                int row = Grammar.row(rule, alternative);
                for (int k = 0; k < grammar.length(row); k++) {
                    if (Grammar.ruleOf(grammar.symbolAt(row, k)) >= grammar.rules()) {
                        return true;
                    }
                }
            }
            return false;
        }

        /** A rule has more rules at its left than each of those has: their number is an order. */
        private void findOrder() {
            int placed = 0;
            for (int number = 0; number < MOST_RULES; number++) {
                for (int rule = 0; rule < grammar.rules(); rule++) {
                    if (Integer.bitCount(left[rule]) == number) {
                        order[placed] = rule;
                        placed++;
                    }
                }
            }
        }

        private void findFirsts() {
            for (int k = 0; k < grammar.rules(); k++) {
                int rule = order[k];
                long found = 0;
                for (int alternative = 0; alternative < grammar.alternatives(rule); alternative++) {
                    found |= rowFirst(Grammar.row(rule, alternative));
                }
                firsts[rule] = found;
            }
        }

        private long rowFirst(int row) {
            long found = 0;
            for (int k = 0; k < grammar.length(row); k++) {
                int symbol = grammar.symbolAt(row, k);
                found |= symbolFirst(symbol);
                if (!symbolIsNothing(symbol)) {
                    break;
                }
            }
            return found;
        }

        private long symbolFirst(int symbol) {
            return Grammar.isToken(symbol) ? 1L << symbol : firsts[Grammar.ruleOf(symbol)];
        }

        private void findFollowings() {
            for (int rule = 0; rule < grammar.rules(); rule++) {
                followings[rule] = 0;
            }
            followings[0] = 1L << END;
            boolean changed = true;
            for (int pass = 0; pass <= MOST_RULES && changed; pass++) {
                changed = false;
                for (int rule = 0; rule < grammar.rules(); rule++) {
                    for (int k = 0; k < grammar.alternatives(rule); k++) {
                        changed |= widenFollowings(Grammar.row(rule, k), followings[rule]);
                    }
                }
            }
        }

        private boolean widenFollowings(int row, long behindRow) {
            boolean changed = false;
            long behind = behindRow;
            for (int k = grammar.length(row) - 1; k >= 0; k--) {
                int symbol = grammar.symbolAt(row, k);
                if (!Grammar.isToken(symbol)) {
                    int rule = Grammar.ruleOf(symbol);
                    changed |= (behind & ~followings[rule]) != 0;
                    followings[rule] |= behind;
                }
                behind = symbolFirst(symbol) | (symbolIsNothing(symbol) ? behind : 0L);
            }
            return changed;
        }
    }

    private static final class Input {
        private int size;
        private final int[] tokens = new int[MOST_INPUT];

        int add(int token) {
            tokens[size] = token;
            size++;
            return size;
        }

        void cut(int n) {
            size = n;
        }

        int size() {
            return size;
        }

        int tokenAt(int place) {
            return tokens[place];
        }
    }

    /**
     * For each rule and each row from each place: to which places it fits, how far it takes
     * tokens away, and which tokens it would take at the end. Places are done from the end and
     * rules in their order, so that all that a row needs is there before it.
     */
    private static final class Chart {
        private final Grammar grammar;
        private final Study study;
        private final Input input;
        private int end;
        private final long[] placesOf = new long[TOKENS];
        private final long[] rowFits = new long[MOST_ROWS * PLACES];
        private final int[] rowFar = new int[MOST_ROWS * PLACES];
        private final long[] ruleFits = new long[MOST_RULES * PLACES];
        private final int[] ruleFar = new int[MOST_RULES * PLACES];
        private final long[] ruleSoon = new long[MOST_RULES * PLACES];
        private long here;
        private int far;
        private long soon;

        Chart(Grammar grammar, Study study, Input input) {
            this.grammar = grammar;
            this.study = study;
            this.input = input;
        }

        /** For the input's first tokens, as many as `end` says. */
        void fill(int end) {
            this.end = end;
            findPlaces();
            for (int place = end; place >= 0; place--) {
                for (int k = 0; k < grammar.rules(); k++) {
                    fillRule(study.inOrder(k), place);
                }
            }
        }

        boolean hasTree() {
            return has(ruleFits[at(0, 0)], end);
        }

        /** How far rule 0 takes tokens from the beginning. */
        int farOfAll() {
            return ruleFar[at(0, 0)];
        }

        /** The tokens that rule 0, from the beginning, would take at the end. */
        long soonOfAll() {
            return ruleSoon[at(0, 0)];
        }

        int end() {
            return end;
        }

        /** Where a rule or a row stands for a place, in the rows of its kind. */
        static int at(int ruleOrRow, int place) {
            return ruleOrRow * PLACES + place;
        }

        long rowFits(int at) {
            return rowFits[at];
        }

        int rowFar(int at) {
            return rowFar[at];
        }

        long ruleFits(int at) {
            return ruleFits[at];
        }

        int ruleFar(int at) {
            return ruleFar[at];
        }

        private void findPlaces() {
            for (int token = 0; token < TOKENS; token++) {
                placesOf[token] = 0;
            }
            for (int place = 0; place < end; place++) {
                placesOf[input.tokenAt(place)] |= 1L << place;
            }
        }

        private void fillRule(int rule, int place) {
            long allFits = 0;
            int farthest = place;
            long allSoon = 0;
            for (int k = 0; k < grammar.alternatives(rule); k++) {
                int row = Grammar.row(rule, k);
                readRow(row, place);
                rowFits[at(row, place)] = here;
                rowFar[at(row, place)] = far;
                allFits |= here;
                farthest = Math.max(farthest, far);
                allSoon |= soon;
            }
            ruleFits[at(rule, place)] = allFits;
            ruleFar[at(rule, place)] = farthest;
            ruleSoon[at(rule, place)] = allSoon;
        }

        private void readRow(int row, int place) {
            here = 1L << place;
            far = place;
            soon = 0;
            for (int k = 0; k < grammar.length(row) && here != 0; k++) {
                int symbol = grammar.symbolAt(row, k);
                if (Grammar.isToken(symbol)) {
                    readToken(symbol);
                } else {
                    readRule(Grammar.ruleOf(symbol), place);
                }
            }
        }

        private void readToken(int token) {
            if (has(here, end)) {
                soon |= 1L << token;
            }
            here = (here & placesOf[token]) << 1;
            for (int place = far + 1; place <= end && here >>> place != 0; place++) {
                far = place;
            }
        }

        private void readRule(int rule, int from) {
            long next = 0;
            for (int place = from; place <= end && here >>> place != 0; place++) {
                if (has(here, place)) {
                    int at = at(rule, place);
                    next |= ruleFits[at];
                    far = Math.max(far, ruleFar[at]);
                    soon |= ruleSoon[at];
                }
            }
            here = next;
        }
    }

    /** How many ways a rule has from a place to another one, up to the most trees told. */
    private static final class Ways {
        private final Grammar grammar;
        private final Study study;
        private final Input input;
        private final Chart chart;
        private final int[] ofRule = new int[MOST_RULES * PLACES * PLACES];
        private final long[] here = new long[PLACES];

        Ways(Grammar grammar, Study study, Input input, Chart chart) {
            this.grammar = grammar;
            this.study = study;
            this.input = input;
            this.chart = chart;
        }

        /** Of rule 0, by the chart as it is filled now. */
        int ofWholeInput() {
            for (int place = chart.end(); place >= 0; place--) {
                for (int k = 0; k < grammar.rules(); k++) {
                    fillRule(study.inOrder(k), place);
                }
            }
            return ofRule[at(0, 0, chart.end())];
        }

        private static int at(int rule, int from, int to) {
            return (rule * PLACES + from) * PLACES + to;
        }

        private void fillRule(int rule, int from) {
            for (int to = from; to <= chart.end(); to++) {
                ofRule[at(rule, from, to)] = 0;
            }
            for (int k = 0; k < grammar.alternatives(rule); k++) {
                int row = Grammar.row(rule, k);
                if (chart.rowFits(Chart.at(row, from)) != 0) {
                    readRow(row, from);
                    addRow(rule, from);
                }
            }
        }

        private void addRow(int rule, int from) {
            for (int to = from; to <= chart.end(); to++) {
                int at = at(rule, from, to);
                ofRule[at] = (int) Math.min(MOST_TREES, ofRule[at] + here[to]);
            }
        }

        private void readRow(int row, int from) {
            for (int to = from; to <= chart.end(); to++) {
                here[to] = 0;
            }
            here[from] = 1;
            for (int k = 0; k < grammar.length(row); k++) {
                int symbol = grammar.symbolAt(row, k);
                if (Grammar.isToken(symbol)) {
                    readToken(symbol, from);
                } else {
                    readRule(Grammar.ruleOf(symbol), from);
                }
            }
        }

        // Both go from the right, so that the numbers at the left are still the old ones.

        private void readToken(int token, int from) {
            for (int to = chart.end(); to > from; to--) {
                here[to] = input.tokenAt(to - 1) == token ? here[to - 1] : 0;
            }
            here[from] = 0;
        }

        private void readRule(int rule, int from) {
            for (int between = chart.end(); between >= from; between--) {
                long before = here[between];
                here[between] = 0;
                if (before != 0) {
                    spread(before, rule, between);
                }
            }
        }

        private void spread(long before, int rule, int from) {
            for (int to = from; to <= chart.end(); to++) {
                long more = before * ofRule[at(rule, from, to)];
                here[to] = Math.min(MOST_TREES, here[to] + more);
            }
        }
    }

    /** A symbol that the walk has still before it. */
    private static final class Pending {
        private int symbol;
        private int above;
        /** Which place it, followed by all that is to come behind it, reaches from each place. */
        private final int[] reaches = new int[PLACES];
    }

    /**
     * Makes the first tree by replacing from the left. What is to come lies on a stack, the next
     * symbol on top, so that a tree of any depth needs no calls within calls.
     */
    private static final class Walk {
        /** Each pending symbol becomes a node or a token; below them all lies the empty row. */
        private static final int MOST_PENDING = MOST_NODES + MOST_INPUT;

        private final Grammar grammar;
        private final Input input;
        private final Chart chart;
        private final Pending[] stack = new Pending[MOST_PENDING + 1];
        private int pending;
        private int place;
        private int nodesDue;

        Walk(Grammar grammar, Input input, Chart chart) {
            this.grammar = grammar;
            this.input = input;
            this.chart = chart;
        }

        /** By the chart, which has a tree; false as soon as it is seen to have too many nodes. */
        boolean derive(Tree tree) {
            tree.empty();
            place = 0;
            nodesDue = 1;
            layBottom();
            lay(-1, NONE);
            for (int step = 0; step < MOST_PENDING && pending > 0; step++) {
                Pending next = stack[pending];
                pending--;
                if (Grammar.isToken(next.symbol)) {
                    place++;
                } else if (!replace(Grammar.ruleOf(next.symbol), next.above, tree)) {
                    return false;
                }
            }
            tree.findEnds();
            return true;
        }

        private boolean replace(int rule, int above, Tree tree) {
            int alternative = firstFitting(rule);
            int row = Grammar.row(rule, alternative);
            int below = grammar.rulesIn(row);
            nodesDue += below;
            if (nodesDue > MOST_NODES) {
                return false;
            }
            int node = tree.add(above, below, grammar.length(row) - below);
            tree.choose(node, rule, alternative, place, look(rule, alternative));
            layRow(row, node);
            return true;
        }

        /** One of them fits, or the walk were not here: so the last one, if none before it. */
        private int firstFitting(int rule) {
            int last = grammar.alternatives(rule) - 1;
            for (int k = 0; k < last; k++) {
                if (reachOfRow(Grammar.row(rule, k)) > chart.end()) {
                    return k;
                }
            }
            return last;
        }

        private int look(int rule, int chosen) {
            if (grammar.alternatives(rule) == 1) {
                return 0;
            }
            int others = place;
            for (int k = 0; k < grammar.alternatives(rule); k++) {
                if (k != chosen) {
                    others = Math.max(others, reachOfRow(Grammar.row(rule, k)));
                }
            }
            return Math.min(others, chart.end()) - place + 1;
        }

        private int reachOfRow(int row) {
            int[] behind = stack[pending].reaches;
            int at = Chart.at(row, place);
            return farthest(chart.rowFar(at), chart.rowFits(at), place, behind);
        }

        /** The reach of what takes tokens to `far` and fits to `fits`, with what is behind it. */
        private int farthest(int far, long fits, int from, int[] behind) {
            int best = far;
            for (int to = from; to <= chart.end() && best <= chart.end(); to++) {
                if (has(fits, to)) {
                    best = Math.max(best, behind[to]);
                }
            }
            return best;
        }

        private void layBottom() {
            pending = 0;
            makeRoom();
            int[] reaches = stack[0].reaches;
            for (int from = 0; from < chart.end(); from++) {
                reaches[from] = from;
            }
            reaches[chart.end()] = chart.end() + 1;
        }

        private void layRow(int row, int node) {
            for (int k = grammar.length(row) - 1; k >= 0; k--) {
                lay(grammar.symbolAt(row, k), node);
                // Nothing is ever laid on the row's front symbol, so nothing asks for its reaches.
                if (k > 0) {
                    findReaches();
                }
            }
        }

        private void lay(int symbol, int above) {
            pending++;
            makeRoom();
            stack[pending].symbol = symbol;
            stack[pending].above = above;
        }

        private void makeRoom() {
            if (stack[pending] == null) {
                stack[pending] = new Pending();
            }
        }

        private void findReaches() {
            int[] reaches = stack[pending].reaches;
            int[] behind = stack[pending - 1].reaches;
            int symbol = stack[pending].symbol;
            for (int from = place; from <= chart.end(); from++) {
                if (Grammar.isToken(symbol)) {
                    reaches[from] = reachOfToken(symbol, from, behind);
                } else {
                    int at = Chart.at(Grammar.ruleOf(symbol), from);
                    reaches[from] = farthest(chart.ruleFar(at), chart.ruleFits(at), from, behind);
                }
            }
        }

        private int reachOfToken(int token, int from, int[] behind) {
            boolean isTaken = from < chart.end() && input.tokenAt(from) == token;
            return isTaken ? behind[from + 1] : from;
        }
    }

    /** Up to the most nodes, each with the facts that `node` tells, under their numbers there. */
    private static final class Tree {
        private static final int RULE = 0;
        private static final int ALTERNATIVE = 1;
        private static final int BEGIN = 2;
        private static final int END_PLACE = 3;
        private static final int ABOVE = 4;
        private static final int BELOW = 5;
        private static final int LOOK = 6;
        static final int FACTS = 7;

        private int size;
        private final int[] facts = new int[MOST_NODES * FACTS];

        void empty() {
            size = 0;
        }

        int size() {
            return size;
        }

        int fact(int node, int what) {
            return facts[node * FACTS + what];
        }

        /** Until all nodes are there, a node's end holds how many tokens are its own. */
        int add(int above, int below, int ownTokens) {
            int at = size * FACTS;
            facts[at + ABOVE] = above;
            facts[at + BELOW] = below;
            facts[at + END_PLACE] = ownTokens;
            size++;
            return size - 1;
        }

        void choose(int node, int rule, int alternative, int begin, int look) {
            int at = node * FACTS;
            facts[at + RULE] = rule;
            facts[at + ALTERNATIVE] = alternative;
            facts[at + BEGIN] = begin;
            facts[at + LOOK] = look;
        }

        /** From the last node on: so each one has got the tokens of those below it. */
        void findEnds() {
            for (int node = size - 1; node >= 0; node--) {
                int at = node * FACTS;
                int tokens = facts[at + END_PLACE];
                int above = facts[at + ABOVE];
                if (above != NONE) {
                    facts[above * FACTS + END_PLACE] += tokens;
                }
                facts[at + END_PLACE] = facts[at + BEGIN] + tokens;
            }
        }
    }
}
