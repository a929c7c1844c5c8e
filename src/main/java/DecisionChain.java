import java.util.Arrays;

/**
 * A chain of decisions under budgets: in each state an action is drawn by the weights of a rule, the action brings a
 * gain, uses budgets, and leads to other states by percents.
 */
public final class DecisionChain {
    /** The value for "none". */
    public static final int NONE = -1;
    /** The value for a gain that there is not. */
    public static final long NOTHING = Long.MIN_VALUE;

    private static final int MOST_STATES = 6;
    private static final int MOST_ACTIONS = 3;
    private static final int MOST_BUDGETS = 3;
    private static final int MOST_STEPS = 5;
    private static final int MOST_LIMIT = 9999;
    private static final int MOST_AMOUNT = 99;
    private static final int MOST_GAIN = 999;
    private static final int MOST_BYTES = 1200;
    private static final int MOST_WALKS = 200;
    private static final int MOST_SETS = 729;
    private static final int MOST_CHANGES = 7;
    private static final int SLOTS = 2;
    /** An action's row in every table: its state times MOST_ACTIONS plus its number. */
    private static final int ROWS = MOST_STATES * MOST_ACTIONS;
    /** The number of times from 0 to the greatest horizon. */
    private static final int TIMES = MOST_STEPS + 1;
    private static final int ALL_WEIGHT = 10;
    private static final int ALL_PERCENT = 100;
    /** A weight times a percent counts parts of this. */
    private static final int ALL_PARTS = 1000;
    private static final int SEEDS = 30011;

    private final Input input;
    private final Parser parser;
    private final Chain chain;
    private final Settings now;
    private final Keeper keeper;
    private final Flows flows;
    private final Spending spending;
    private final PureSets pure;
    private final Values values;
    private final Walker walker;
    private final Report text;
    private final int[] trial;

    /** Creates an object without a chain and with an empty input buffer. */
    public DecisionChain() {
        Input bytes = new Input();
        Chain told = new Chain();
        Settings settings = new Settings();
        Flows followed = new Flows(told);
        input = bytes;
        parser = new Parser(bytes);
        chain = told;
        now = settings;
        keeper = new Keeper();
        flows = followed;
        spending = new Spending(told);
        pure = new PureSets(told, settings, followed);
        values = new Values(told, settings);
        walker = new Walker(told);
        text = new Report();
        trial = new int[ROWS];
    }

    // ---- input

    public int append(int a, int b, int c, int d, int e) {
        if (!input.hasRoom(20)) {
            return NONE;
        }
        input.put(a);
        input.put(b);
        input.put(c);
        input.put(d);
        input.put(e);
        return input.count;
    }

    public int load(int n) throws IndexOutOfBoundsException, IllegalArgumentException {
        if (n < 0 || n > input.count) {
            throw new IndexOutOfBoundsException("not so many bytes in the buffer");
        }
        boolean right = parser.parse(n);
        input.count = 0;
        if (!right) {
            throw new IllegalArgumentException("the text has an error");
        }
        chain.copyFrom(parser.chain);
        now.copyFrom(parser.settings);
        keeper.forget();
        pure.forget();
        return chain.countActions();
    }

    public int parseError() {
        return parser.error;
    }

    public int errorPosition() {
        return parser.errorAt;
    }

    public int buffered() {
        return input.count;
    }

    // ---- the chain

    public int states() {
        return chain.states;
    }

    public int budgets() {
        return chain.budgets;
    }

    public int horizon() {
        return now.horizon;
    }

    public int start() throws IllegalStateException {
        needChain();
        return now.start;
    }

    public int actions(int state) throws IllegalStateException, IndexOutOfBoundsException {
        needState(state);
        return chain.actions[state];
    }

    public int gain(int state, int action) throws IllegalStateException, IndexOutOfBoundsException {
        needAction(state, action);
        return chain.gains[rowOf(state, action)];
    }

    public int uses(int state, int action, int budget) throws IllegalStateException, IndexOutOfBoundsException {
        needAction(state, action);
        needBudget(budget);
        return chain.amountOf(rowOf(state, action), budget);
    }

    public int percent(int state, int action, int next) throws IllegalStateException, IndexOutOfBoundsException {
        needAction(state, action);
        needState(next);
        return chain.percentTo(rowOf(state, action), next);
    }

    public int weight(int state, int action) throws IllegalStateException, IndexOutOfBoundsException {
        needAction(state, action);
        return now.weights[rowOf(state, action)];
    }

    public boolean isPermitted(int state, int action) throws IllegalStateException, IndexOutOfBoundsException {
        needAction(state, action);
        return now.permits(state, action);
    }

    public int limit(int budget) throws IllegalStateException, IndexOutOfBoundsException {
        needBudget(budget);
        return now.limits[budget];
    }

    public int reach(int t) throws IllegalStateException, IllegalArgumentException {
        needTime(t);
        followRules();
        int set = 0;
        for (int state = 0; state < chain.states; state++) {
            if (flows.at(state, t) > 0) {
                set |= 1 << state;
            }
        }
        return set;
    }

    public boolean isClosed(int set) throws IllegalStateException, IllegalArgumentException {
        needChain();
        needRange(set, 1, (1 << chain.states) - 1);
        followRules();
        for (int state = 0; state < chain.states; state++) {
            if ((set >> state & 1) == 1 && (flows.nextStates(state) & ~set) != 0) {
                return false;
            }
        }
        return true;
    }

    // ---- flows

    public long flow(int state, int t)
            throws IllegalStateException, IndexOutOfBoundsException, IllegalArgumentException {
        needState(state);
        needTime(t);
        followRules();
        return flows.at(state, t);
    }

    public long use(int state, int action, int t)
            throws IllegalStateException, IndexOutOfBoundsException, IllegalArgumentException {
        needAction(state, action);
        needRange(t, 0, now.horizon - 1);
        followRules();
        return flows.at(state, t) * now.weights[rowOf(state, action)];
    }

    public long visits(int state) throws IllegalStateException, IndexOutOfBoundsException {
        needState(state);
        followRules();
        return flows.visitsOf(state);
    }

    public long hit(int state) throws IllegalStateException, IndexOutOfBoundsException {
        needState(state);
        followRules();
        return flows.hitOf(state);
    }

    public long unit() throws IllegalStateException {
        needChain();
        return unitOf(now.horizon);
    }

    public long gainOfRun() throws IllegalStateException {
        needChain();
        followRules();
        return flows.gainOf(now.weights);
    }

    public long usedOfRun(int budget) throws IllegalStateException, IndexOutOfBoundsException {
        needBudget(budget);
        followRules();
        return flows.usedOf(now.weights, budget);
    }

    public long left(int budget) throws IllegalStateException, IndexOutOfBoundsException {
        needBudget(budget);
        followRules();
        return now.limits[budget] * unitOf(now.horizon) - flows.usedOf(now.weights, budget);
    }

    public int broken() throws IllegalStateException {
        needChain();
        return brokenWith(now.weights);
    }

    public long within(int budget) throws IllegalStateException, IndexOutOfBoundsException {
        needBudget(budget);
        return spending.chanceWithin(now, budget);
    }

    public int mostUsed(int budget) throws IllegalStateException, IndexOutOfBoundsException {
        needBudget(budget);
        return spending.greatest(now, budget);
    }

    public int firstTime(int state) throws IllegalStateException, IndexOutOfBoundsException {
        needState(state);
        followRules();
        for (int t = 0; t <= now.horizon; t++) {
            if (flows.at(state, t) > 0) {
                return t;
            }
        }
        return NONE;
    }

    public int busiest(int rank) throws IllegalStateException, IndexOutOfBoundsException {
        needState(rank);
        followRules();
        for (int state = 0; state < chain.states; state++) {
            if (flows.rankOf(state) == rank) {
                return state;
            }
        }
        return NONE;
    }

    public float meanGain() throws IllegalStateException {
        needChain();
        followRules();
        return (float) flows.gainOf(now.weights) / (float) unitOf(now.horizon);
    }

    // ---- the likeliest run

    public long likeliest() throws IllegalStateException {
        needChain();
        followRules();
        return flows.greatestChance();
    }

    public int likeliestAt(int t) throws IllegalStateException, IllegalArgumentException {
        needTime(t);
        followRules();
        return flows.stateOfLikeliest(t);
    }

    // ---- best rules

    public long value(int state, int n)
            throws IllegalStateException, IndexOutOfBoundsException, IllegalArgumentException {
        needState(state);
        needRange(n, 0, MOST_STEPS);
        values.fill();
        return values.of(state, n);
    }

    public int valueAction(int state, int n)
            throws IllegalStateException, IndexOutOfBoundsException, IllegalArgumentException {
        needState(state);
        needRange(n, 1, MOST_STEPS);
        values.fill();
        return values.firstAction(state, n);
    }

    public long bestGain() throws IllegalStateException {
        needChain();
        return pure.findBest(NONE, 0);
    }

    public int bestAction(int state) throws IllegalStateException, IndexOutOfBoundsException {
        needState(state);
        return pure.findBest(NONE, 0) == NOTHING ? NONE : pure.best[state];
    }

    public int pureSets() throws IllegalStateException {
        needChain();
        return pure.countHolding();
    }

    public long worth(int budget, int more)
            throws IllegalStateException, IndexOutOfBoundsException, IllegalArgumentException {
        needBudget(budget);
        needRange(more, 1, MOST_LIMIT);
        long before = pure.findBest(NONE, 0);
        return before == NOTHING ? NOTHING : pure.findBest(budget, more) - before;
    }

    public int leastLimit(int budget) throws IllegalStateException, IndexOutOfBoundsException {
        needBudget(budget);
        return pure.smallestLimit(budget);
    }

    public int bestWeight(int state, int action, int other)
            throws IllegalStateException, IndexOutOfBoundsException, IllegalArgumentException {
        needAction(state, action);
        needAction(state, other);
        if (action == other) {
            throw new IllegalArgumentException("both actions are the same");
        }
        copyRow(now.weights, trial);
        setWeights(trial, state, 0, 0, 0);
        int best = NONE;
        long bestGain = NOTHING;
        for (int weight = 0; weight <= ALL_WEIGHT; weight++) {
            trial[rowOf(state, action)] = ALL_WEIGHT - weight;
            trial[rowOf(state, other)] = weight;
            if (brokenWith(trial) == 0 && flows.gainOf(trial) > bestGain) {
                best = weight;
                bestGain = flows.gainOf(trial);
            }
        }
        return best;
    }

    // ---- walks

    public int seed() throws IllegalStateException {
        needChain();
        return now.seed;
    }

    public int walked(int t) throws IllegalStateException, IllegalArgumentException {
        needWalk();
        needRange(t, 0, now.walkSteps);
        return now.walkStates[t];
    }

    public int walkedBy(int t) throws IllegalStateException, IllegalArgumentException {
        needWalk();
        needRange(t, 0, now.walkSteps - 1);
        return now.walkActions[t];
    }

    public int walkGain() throws IllegalStateException {
        needWalk();
        int sum = 0;
        for (int t = 0; t < now.walkSteps; t++) {
            sum += chain.gains[now.walkRow(t)];
        }
        return sum;
    }

    public int walkUsed(int budget) throws IllegalStateException, IndexOutOfBoundsException {
        needWalk();
        needBudget(budget);
        int sum = 0;
        for (int t = 0; t < now.walkSteps; t++) {
            sum += chain.amountOf(now.walkRow(t), budget);
        }
        return sum;
    }

    public int gainOfWalks(int n) throws IllegalStateException, IllegalArgumentException {
        needChain();
        needRange(n, 1, MOST_WALKS);
        walker.seed = now.seed;
        int sum = 0;
        for (int k = 0; k < n; k++) {
            sum += walker.gainOfNext(now);
        }
        return sum;
    }

    // ---- the report

    public int report(int t) throws IllegalStateException, IllegalArgumentException {
        needTime(t);
        followRules();
        text.length = 0;
        for (int state = 0; state < chain.states; state++) {
            if (flows.at(state, t) > 0) {
                text.addPart(state, flows.at(state, t));
            }
        }
        return text.length;
    }

    public int reportByte(int i) throws IndexOutOfBoundsException {
        if (i < 0 || i >= text.length) {
            throw new IndexOutOfBoundsException("no such byte");
        }
        return text.bytes[i];
    }

    // ---- changes

    public int setRule(int state, int first, int second, int third)
            throws IllegalStateException, IndexOutOfBoundsException, IllegalArgumentException {
        needState(state);
        needRange(first, 0, ALL_WEIGHT);
        needRange(second, 0, chain.actions[state] > 1 ? ALL_WEIGHT : 0);
        needRange(third, 0, chain.actions[state] > 2 ? ALL_WEIGHT : 0);
        if (first + second + third != ALL_WEIGHT) {
            throw new IllegalArgumentException("the weights do not sum to 10");
        }
        keeper.keep(now);
        setWeights(now.weights, state, first, second, third);
        return brokenWith(now.weights);
    }

    public int takeBest() throws IllegalStateException {
        needChain();
        if (pure.findBest(NONE, 0) == NOTHING) {
            throw new IllegalStateException("no pure rule set holds the budgets");
        }
        keeper.keep(now);
        int others = 0;
        for (int state = 0; state < chain.states; state++) {
            // A state's weights sum to 10, so they are those of the pure rule if this one is 10.
            if (now.weights[rowOf(state, pure.best[state])] != ALL_WEIGHT) {
                others++;
            }
        }
        pure.writeWeights(pure.best, now.weights);
        return others;
    }

    public boolean permit(int state, int action, boolean permitted)
            throws IllegalStateException, IndexOutOfBoundsException, IllegalArgumentException {
        needAction(state, action);
        int rest = now.permitted[state] & ~(1 << action);
        if (!permitted && (rest & (1 << chain.actions[state]) - 1) == 0) {
            throw new IllegalArgumentException("no action of the state would be permitted");
        }
        boolean before = now.permits(state, action);
        keeper.keep(now);
        now.permitted[state] = permitted ? rest | 1 << action : rest;
        return before;
    }

    public int setLimit(int budget, int limit)
            throws IllegalStateException, IndexOutOfBoundsException, IllegalArgumentException {
        needBudget(budget);
        needRange(limit, 0, MOST_LIMIT);
        keeper.keep(now);
        int before = now.limits[budget];
        now.limits[budget] = limit;
        return before;
    }

    public int setStart(int state) throws IllegalStateException, IndexOutOfBoundsException {
        needState(state);
        keeper.keep(now);
        int before = now.start;
        now.start = state;
        return before;
    }

    public int setHorizon(int h) throws IllegalStateException, IllegalArgumentException {
        needChain();
        needRange(h, 1, MOST_STEPS);
        keeper.keep(now);
        int before = now.horizon;
        now.horizon = h;
        return before;
    }

    public int walk() throws IllegalStateException {
        needChain();
        keeper.keep(now);
        walker.seed = now.seed;
        walker.state = now.start;
        now.walkStates[0] = now.start;
        for (int t = 0; t < now.horizon; t++) {
            walker.step(now.weights);
            now.walkActions[t] = walker.action;
            now.walkStates[t + 1] = walker.state;
        }
        now.walkSteps = now.horizon;
        now.seed = walker.seed;
        return walker.state;
    }

    public int undo() throws IllegalStateException {
        if (keeper.changes == 0) {
            throw new IllegalStateException("nothing can be undone");
        }
        keeper.giveBack(now);
        return keeper.changes;
    }

    public int undoable() {
        return keeper.changes;
    }

    public int save(int slot) throws IllegalStateException, IndexOutOfBoundsException {
        needChain();
        needSlot(slot);
        keeper.put(slot, now);
        return now.seed;
    }

    public int restore(int slot) throws IndexOutOfBoundsException, IllegalStateException {
        needSlot(slot);
        if (!keeper.isFull(slot)) {
            throw new IllegalStateException("nothing is saved there");
        }
        keeper.take(slot, now);
        return now.seed;
    }

    // ---- what arguments must be

    private void needChain() {
        if (chain.states == 0) {
            throw new IllegalStateException("no chain");
        }
    }

    private void needState(int state) {
        needChain();
        if (state < 0 || state >= chain.states) {
            throw new IndexOutOfBoundsException("no such state");
        }
    }

    private void needAction(int state, int action) {
        needState(state);
        if (action < 0 || action >= chain.actions[state]) {
            throw new IndexOutOfBoundsException("no such action");
        }
    }

    private void needBudget(int budget) {
        needChain();
        if (budget < 0 || budget >= chain.budgets) {
            throw new IndexOutOfBoundsException("no such budget");
        }
    }

    private void needTime(int t) {
        needChain();
        needRange(t, 0, now.horizon);
    }

    private void needWalk() {
        needChain();
        if (now.walkSteps == NONE) {
            throw new IllegalStateException("no walk");
        }
    }

    private static void needSlot(int slot) {
        if (slot < 0 || slot >= SLOTS) {
            throw new IndexOutOfBoundsException("no such slot");
        }
    }

    private static void needRange(int number, int least, int most) {
        if (number < least || number > most) {
            throw new IllegalArgumentException("out of range");
        }
    }

    // ---- shared parts

    private static int rowOf(int state, int action) {
        return state * MOST_ACTIONS + action;
    }

    private static void copyRow(int[] from, int[] to) {
        System.arraycopy(from, 0, to, 0, Math.min(from.length, to.length));
    }

    private static void setWeights(int[] weights, int state, int first, int second, int third) {
        weights[rowOf(state, 0)] = first;
        weights[rowOf(state, 1)] = second;
        weights[rowOf(state, 2)] = third;
    }

    private static long unitOf(int horizon) {
        long unit = ALL_WEIGHT;
        for (int t = 1; t < horizon; t++) {
            unit *= ALL_PARTS;
        }
        return unit;
    }

    private void followRules() {
        flows.follow(now.weights, now.start, now.horizon);
    }

    /** Follows the weights and tells the budgets that do not hold with them. */
    private int brokenWith(int[] weights) {
        flows.follow(weights, now.start, now.horizon);
        int set = 0;
        for (int budget = 0; budget < chain.budgets; budget++) {
            if (flows.usedOf(weights, budget) > now.limits[budget] * unitOf(now.horizon)) {
                set |= 1 << budget;
            }
        }
        return set;
    }

    /** The input buffer, and the token of it at which the parser stands. */
    private static final class Input {
        static final int END = 0;
        static final int WORD = 1;
        static final int NUMBER = 2;
        static final int MINUS = 3;
        static final int SEMICOLON = 4;
        static final int WRONG = 5;
        private static final int MOST_LETTERS = 8;
        private static final int MOST_DIGITS = 5;

        final byte[] bytes = new byte[MOST_BYTES];
        int count;
        /** The number of bytes that are parsed. */
        int limit;
        int kind;
        /** The index of the token's first byte, and that behind its last one. */
        int at;
        int end;
        int number;

        boolean hasRoom(int more) {
            return count + more <= MOST_BYTES;
        }

        void put(int four) {
            for (int shift = 24; shift >= 0 && count < MOST_BYTES; shift -= 8) {
                bytes[count] = (byte) (four >> shift);
                count++;
            }
        }

        void begin(int n) {
            limit = Math.min(n, MOST_BYTES);
            end = 0;
            advance();
        }

        void advance() {
            at = end;
            while (at < limit && bytes[at] == ' ') {
                at++;
            }
            end = at;
            if (at >= limit) {
                kind = END;
            } else if (isLetter(bytes[at])) {
                while (end < limit && isLetter(bytes[end])) {
                    end++;
                }
                kind = end - at <= MOST_LETTERS ? WORD : WRONG;
            } else if (isDigit(bytes[at])) {
                number = 0;
                while (end < limit && isDigit(bytes[end])) {
                    number = number * 10 + (bytes[end] - '0');
                    end++;
                }
                kind = end - at <= MOST_DIGITS ? NUMBER : WRONG;
            } else {
                kind = bytes[at] == '-' ? MINUS : bytes[at] == ';' ? SEMICOLON : WRONG;
                end = at + 1;
            }
        }

        boolean isWord(String word) {
            if (kind != WORD || end - at != word.length()) {
                return false;
            }
            for (int k = 0; k < word.length(); k++) {
                if (bytes[at + k] != word.charAt(k)) {
                    return false;
                }
            }
            return true;
        }

        private static boolean isLetter(int b) {
            return b >= 'a' && b <= 'z';
        }

        private static boolean isDigit(int b) {
            return b >= '0' && b <= '9';
        }
    }

    /** Parses a text into a chain and settings of its own, so that an error leaves those of the object as they are. */
    private static final class Parser {
        private static final int NOT_ALLOWED = 1;
        private static final int OUT_OF_BOUNDS = 2;
        private static final int TOLD_ALREADY = 3;
        private static final int TOO_MANY = 4;
        private static final int WRONG_SUM = 5;
        private static final int NO_ACTION = 6;

        final Chain chain = new Chain();
        final Settings settings = new Settings();
        int error;
        int errorAt = NONE;
        private final Input input;
        /** The number that was taken last. */
        private int taken;
        /** The states that a rule line has told. */
        private int ruled;

        Parser(Input bytes) {
            input = bytes;
        }

        boolean parse(int n) {
            error = 0;
            errorAt = NONE;
            ruled = 0;
            chain.clear();
            settings.clear();
            input.begin(n);
            if (!parseHead()) {
                return false;
            }
            for (int line = 0; line < MOST_BYTES && input.kind == Input.SEMICOLON; line++) {
                input.advance();
                if (!parseLine()) {
                    return false;
                }
            }
            return input.kind == Input.END ? checkStates() : fail(NOT_ALLOWED);
        }

        private boolean fail(int code) {
            error = code;
            errorAt = input.at;
            return false;
        }

        private boolean takeWord(String word) {
            if (!input.isWord(word)) {
                return fail(NOT_ALLOWED);
            }
            input.advance();
            return true;
        }

        /** Tests the number at which the parser stands, and stays there: other errors may apply to it. */
        private boolean seeNumber(int least, int most) {
            if (input.kind != Input.NUMBER) {
                return fail(NOT_ALLOWED);
            }
            taken = input.number;
            return taken >= least && taken <= most || fail(OUT_OF_BOUNDS);
        }

        private boolean takeNumber(int least, int most) {
            if (!seeNumber(least, most)) {
                return false;
            }
            input.advance();
            return true;
        }

        private boolean seeState() {
            return seeNumber(0, chain.states - 1);
        }

        private boolean parseHead() {
            if (!takeWord("chain") || !takeWord("states") || !takeNumber(1, MOST_STATES)) {
                return false;
            }
            chain.states = taken;
            if (!takeWord("horizon") || !takeNumber(1, MOST_STEPS)) {
                return false;
            }
            settings.horizon = taken;
            if (!takeWord("seed") || !takeNumber(0, SEEDS - 1)) {
                return false;
            }
            settings.seed = taken;
            return true;
        }

        private boolean parseLine() {
            if (input.isWord("budget")) {
                return parseBudget();
            }
            if (input.isWord("act")) {
                return parseAct();
            }
            if (input.isWord("rule")) {
                return parseRule();
            }
            return parseStart();
        }

        private boolean parseBudget() {
            if (chain.budgets >= MOST_BUDGETS) {
                return fail(TOO_MANY);
            }
            input.advance();
            if (!takeNumber(0, MOST_LIMIT)) {
                return false;
            }
            settings.limits[chain.budgets] = taken;
            chain.budgets++;
            return true;
        }

        private boolean parseStart() {
            if (!takeWord("start") || !seeState()) {
                return false;
            }
            settings.start = taken;
            input.advance();
            return true;
        }

        private boolean parseAct() {
            input.advance();
            if (!seeState()) {
                return false;
            }
            int state = taken;
            if (chain.actions[state] >= MOST_ACTIONS) {
                return fail(TOO_MANY);
            }
            input.advance();
            int row = rowOf(state, chain.actions[state]);
            if (!parseGain(row) || !parseUses(row) || !parsePercents(row)) {
                return false;
            }
            chain.actions[state]++;
            return true;
        }

        private boolean parseGain(int row) {
            boolean negative = input.kind == Input.MINUS;
            if (negative) {
                input.advance();
            }
            if (!takeNumber(0, MOST_GAIN)) {
                return false;
            }
            chain.gains[row] = negative ? -taken : taken;
            return true;
        }

        private boolean parseUses(int row) {
            // A budget can be told once in a line, so one round more than there are budgets ends in an error.
            for (int k = 0; k <= MOST_BUDGETS && input.isWord("uses"); k++) {
                input.advance();
                if (!seeNumber(0, chain.budgets - 1)) {
                    return false;
                }
                int budget = taken;
                if (chain.amountOf(row, budget) != 0) {
                    return fail(TOLD_ALREADY);
                }
                input.advance();
                if (!takeNumber(1, MOST_AMOUNT)) {
                    return false;
                }
                chain.amounts[row * MOST_BUDGETS + budget] = taken;
            }
            return true;
        }

        private boolean parsePercents(int row) {
            int rest = ALL_PERCENT;
            // A state can be told once in a line, so one round more than there are states ends in an error.
            for (int k = 0; k <= MOST_STATES && input.isWord("to"); k++) {
                input.advance();
                if (!seeState()) {
                    return false;
                }
                int next = taken;
                if (chain.percentTo(row, next) != 0) {
                    return fail(TOLD_ALREADY);
                }
                input.advance();
                if (!takeNumber(1, rest)) {
                    return false;
                }
                chain.tell(row, next, taken);
                rest -= taken;
            }
            return endLine(rest);
        }

        private boolean parseRule() {
            input.advance();
            if (!seeState()) {
                return false;
            }
            int state = taken;
            if ((ruled >> state & 1) == 1) {
                return fail(TOLD_ALREADY);
            }
            ruled |= 1 << state;
            input.advance();
            return parseWeights(state);
        }

        private boolean parseWeights(int state) {
            if (input.kind != Input.NUMBER) {
                return fail(NOT_ALLOWED);
            }
            // The first WEIGHT replaces the 10 of a state without a rule line; the others are 0 until they are told.
            int rest = ALL_WEIGHT;
            for (int action = 0; action <= MOST_ACTIONS && input.kind == Input.NUMBER; action++) {
                if (action >= chain.actions[state]) {
                    return fail(NOT_ALLOWED);
                }
                if (!takeNumber(0, rest)) {
                    return false;
                }
                settings.weights[rowOf(state, action)] = taken;
                rest -= taken;
            }
            return endLine(rest);
        }

        /** Tests the token behind a line of which the rest is still missing to the sum. */
        private boolean endLine(int rest) {
            if (input.kind != Input.SEMICOLON && input.kind != Input.END) {
                return fail(NOT_ALLOWED);
            }
            return rest == 0 || fail(WRONG_SUM);
        }

        private boolean checkStates() {
            for (int state = 0; state < chain.states; state++) {
                if (chain.actions[state] == 0) {
                    return fail(NO_ACTION);
                }
            }
            return true;
        }
    }

    /** What a text tells and no change touches. */
    private static final class Chain {
        int states;
        int budgets;
        final int[] actions = new int[MOST_STATES];
        final int[] gains = new int[ROWS];
        final int[] amounts = new int[ROWS * MOST_BUDGETS];
        final int[] percents = new int[ROWS * MOST_STATES];
        /** The states to which an action leads, in the order of the text, on which the draws depend. */
        final int[] tells = new int[ROWS * MOST_STATES];
        final int[] told = new int[ROWS];

        void clear() {
            states = 0;
            budgets = 0;
            Arrays.fill(actions, 0);
            Arrays.fill(gains, 0);
            Arrays.fill(amounts, 0);
            Arrays.fill(percents, 0);
            Arrays.fill(tells, 0);
            Arrays.fill(told, 0);
        }

        void copyFrom(Chain other) {
            states = other.states;
            budgets = other.budgets;
            copyRow(other.actions, actions);
            copyRow(other.gains, gains);
            copyRow(other.amounts, amounts);
            copyRow(other.percents, percents);
            copyRow(other.tells, tells);
            copyRow(other.told, told);
        }

        int amountOf(int row, int budget) {
            return amounts[row * MOST_BUDGETS + budget];
        }

        int percentTo(int row, int next) {
            return percents[row * MOST_STATES + next];
        }

        void tell(int row, int next, int percent) {
            if (told[row] < MOST_STATES) {
                tells[row * MOST_STATES + told[row]] = next;
                told[row]++;
                percents[row * MOST_STATES + next] = percent;
            }
        }

        int countActions() {
            int sum = 0;
            for (int state = 0; state < states; state++) {
                sum += actions[state];
            }
            return sum;
        }
    }

    /** The state of the object: all that changes, undo and restore touch. */
    private static final class Settings {
        final int[] weights = new int[ROWS];
        /** For each state the bit set of the permitted actions. */
        final int[] permitted = new int[MOST_STATES];
        final int[] limits = new int[MOST_BUDGETS];
        int start;
        int horizon;
        int seed;
        /** The number of steps of the latest walk; NONE if there is no walk. */
        int walkSteps = NONE;
        final int[] walkStates = new int[TIMES];
        final int[] walkActions = new int[MOST_STEPS];

        void clear() {
            for (int state = 0; state < MOST_STATES; state++) {
                setWeights(weights, state, ALL_WEIGHT, 0, 0);
                permitted[state] = (1 << MOST_ACTIONS) - 1;
            }
            Arrays.fill(limits, 0);
            start = 0;
            horizon = 0;
            seed = 0;
            walkSteps = NONE;
        }

        void copyFrom(Settings other) {
            copyRow(other.weights, weights);
            copyRow(other.permitted, permitted);
            copyRow(other.limits, limits);
            start = other.start;
            horizon = other.horizon;
            seed = other.seed;
            walkSteps = other.walkSteps;
            copyRow(other.walkStates, walkStates);
            copyRow(other.walkActions, walkActions);
        }

        boolean permits(int state, int action) {
            return (permitted[state] >> action & 1) == 1;
        }

        int walkRow(int t) {
            return rowOf(walkStates[t], walkActions[t]);
        }
    }

    /** Keeps settings: those before the latest changes, the newest last, and those that were saved. */
    private static final class Keeper {
        int changes;
        private final Settings[] before = new Settings[MOST_CHANGES];
        private final Settings[] slots = new Settings[SLOTS];
        /** The slots in which something is saved. */
        private int full;

        Keeper() {
            for (int k = 0; k < MOST_CHANGES; k++) {
                before[k] = new Settings();
            }
            for (int slot = 0; slot < SLOTS; slot++) {
                slots[slot] = new Settings();
            }
        }

        void forget() {
            changes = 0;
            full = 0;
        }

        void keep(Settings settings) {
            if (changes == MOST_CHANGES) {
                dropOldest();
            }
            before[changes].copyFrom(settings);
            changes++;
        }

        void giveBack(Settings settings) {
            if (changes > 0) {
                changes--;
                settings.copyFrom(before[changes]);
            }
        }

        private void dropOldest() {
            Settings oldest = before[0];
            for (int k = 1; k < MOST_CHANGES; k++) {
                before[k - 1] = before[k];
            }
            before[MOST_CHANGES - 1] = oldest;
            changes = MOST_CHANGES - 1;
        }

        boolean isFull(int slot) {
            return (full >> slot & 1) == 1;
        }

        void put(int slot, Settings settings) {
            slots[slot].copyFrom(settings);
            full |= 1 << slot;
        }

        void take(int slot, Settings settings) {
            settings.copyFrom(slots[slot]);
            changes = 0;
        }
    }

    /** The flows of the states under weights that are given, and what follows from them. */
    private static final class Flows {
        private final Chain chain;
        private int start;
        private int horizon;
        /** The parts of 1000 with which a step leads from a state to another. */
        private final long[] parts = new long[MOST_STATES * MOST_STATES];
        private final long[] flow = new long[TIMES * MOST_STATES];
        /** The flows of the runs that have not been in a state yet. */
        private final long[] missing = new long[TIMES * MOST_STATES];
        /** The greatest chance of a row of some steps from a state. */
        private final long[] chances = new long[TIMES * MOST_STATES];

        Flows(Chain told) {
            chain = told;
        }

        void follow(int[] weights, int first, int steps) {
            start = first;
            horizon = steps;
            fillParts(weights);
            Arrays.fill(flow, 0);
            flow[start] = 1;
            for (int t = 0; t < horizon; t++) {
                spread(flow, t);
            }
        }

        private void fillParts(int[] weights) {
            Arrays.fill(parts, 0);
            for (int state = 0; state < chain.states; state++) {
                for (int action = 0; action < chain.actions[state]; action++) {
                    int row = rowOf(state, action);
                    if (weights[row] > 0) {
                        addParts(state, row, weights[row]);
                    }
                }
            }
        }

        private void addParts(int state, int row, int weight) {
            for (int next = 0; next < chain.states; next++) {
                parts[state * MOST_STATES + next] += weight * chain.percentTo(row, next);
            }
        }

        private void spread(long[] rows, int t) {
            for (int state = 0; state < chain.states; state++) {
                long here = rows[t * MOST_STATES + state];
                if (here > 0) {
                    for (int next = 0; next < chain.states; next++) {
                        rows[(t + 1) * MOST_STATES + next] += here * partsTo(state, next);
                    }
                }
            }
        }

        private long partsTo(int state, int next) {
            return parts[state * MOST_STATES + next];
        }

        int nextStates(int state) {
            int set = 0;
            for (int next = 0; next < chain.states; next++) {
                if (partsTo(state, next) > 0) {
                    set |= 1 << next;
                }
            }
            return set;
        }

        long at(int state, int t) {
            return flow[t * MOST_STATES + state];
        }

        long visitsOf(int state) {
            return sumOf(state, horizon);
        }

        /** The flows of a state up to a time, brought to the power of 1000 of that time. */
        private long sumOf(int state, int last) {
            long sum = 0;
            for (int t = 0; t <= last; t++) {
                sum = sum * ALL_PARTS + at(state, t);
            }
            return sum;
        }

        int rankOf(int state) {
            long own = visitsOf(state);
            int rank = 0;
            for (int other = 0; other < chain.states; other++) {
                long visits = visitsOf(other);
                if (visits > own || visits == own && other < state) {
                    rank++;
                }
            }
            return rank;
        }

        long hitOf(int state) {
            Arrays.fill(missing, 0);
            missing[start] = 1;
            long sum = 0;
            for (int t = 0; t <= horizon; t++) {
                int cell = t * MOST_STATES + state;
                sum = sum * ALL_PARTS + missing[cell];
                missing[cell] = 0;
                if (t < horizon) {
                    spread(missing, t);
                }
            }
            return sum;
        }

        long gainOf(int[] weights) {
            long sum = 0;
            for (int state = 0; state < chain.states; state++) {
                long mean = 0;
                for (int action = 0; action < chain.actions[state]; action++) {
                    int row = rowOf(state, action);
                    mean += weights[row] * chain.gains[row];
                }
                sum += sumOf(state, horizon - 1) * mean;
            }
            return sum;
        }

        long usedOf(int[] weights, int budget) {
            long sum = 0;
            for (int state = 0; state < chain.states; state++) {
                long mean = 0;
                for (int action = 0; action < chain.actions[state]; action++) {
                    int row = rowOf(state, action);
                    mean += weights[row] * chain.amountOf(row, budget);
                }
                sum += sumOf(state, horizon - 1) * mean;
            }
            return sum;
        }

        long greatestChance() {
            fillChances();
            return chances[horizon * MOST_STATES + start];
        }

        int stateOfLikeliest(int t) {
            fillChances();
            int state = start;
            for (int k = 0; k < t; k++) {
                state = likeliestNext(state, horizon - k);
            }
            return state;
        }

        private void fillChances() {
            Arrays.fill(chances, 1);
            for (int steps = 1; steps <= horizon; steps++) {
                for (int state = 0; state < chain.states; state++) {
                    long greatest = 0;
                    for (int next = 0; next < chain.states; next++) {
                        greatest = Math.max(greatest, chanceOver(state, next, steps));
                    }
                    chances[steps * MOST_STATES + state] = greatest;
                }
            }
        }

        private long chanceOver(int state, int next, int steps) {
            return partsTo(state, next) * chances[(steps - 1) * MOST_STATES + next];
        }

        private int likeliestNext(int state, int steps) {
            for (int next = 0; next < chain.states; next++) {
                if (chanceOver(state, next, steps) == chances[steps * MOST_STATES + state]) {
                    return next;
                }
            }
            return state;
        }
    }

    /** The sums of the amounts that single runs use of a budget. */
    private static final class Spending {
        private static final int SUMS = MOST_STEPS * MOST_AMOUNT + 1;

        private final Chain chain;
        /** For each state and sum the flow of the runs that are in it and have used the sum, and that a step later. */
        private long[] here = new long[MOST_STATES * SUMS];
        private long[] later = new long[MOST_STATES * SUMS];
        private final int[] greatest = new int[TIMES * MOST_STATES];

        Spending(Chain told) {
            chain = told;
        }

        long chanceWithin(Settings settings, int budget) {
            int limit = Math.min(settings.limits[budget], SUMS - 1);
            Arrays.fill(here, 0);
            here[settings.start * SUMS] = 1;
            for (int t = 0; t < settings.horizon; t++) {
                Arrays.fill(later, 0);
                int most = Math.min(limit, t * MOST_AMOUNT);
                for (int sum = 0; sum <= most; sum++) {
                    spendFrom(settings.weights, budget, sum, limit);
                }
                long[] done = here;
                here = later;
                later = done;
            }
            long chance = 0;
            for (int cell = 0; cell < here.length; cell++) {
                chance += here[cell];
            }
            return chance;
        }

        private void spendFrom(int[] weights, int budget, int sum, int limit) {
            for (int state = 0; state < chain.states; state++) {
                long flow = here[state * SUMS + sum];
                if (flow > 0) {
                    for (int action = 0; action < chain.actions[state]; action++) {
                        int row = rowOf(state, action);
                        int after = sum + chain.amountOf(row, budget);
                        if (weights[row] > 0 && after <= limit) {
                            spendTo(row, flow * weights[row], after);
                        }
                    }
                }
            }
        }

        private void spendTo(int row, long flow, int sum) {
            for (int next = 0; next < chain.states; next++) {
                later[next * SUMS + sum] += flow * chain.percentTo(row, next);
            }
        }

        int greatest(Settings settings, int budget) {
            Arrays.fill(greatest, 0);
            for (int steps = 1; steps <= settings.horizon; steps++) {
                for (int state = 0; state < chain.states; state++) {
                    greatest[steps * MOST_STATES + state] = greatestFrom(settings.weights, budget, state, steps);
                }
            }
            return greatest[settings.horizon * MOST_STATES + settings.start];
        }

        private int greatestFrom(int[] weights, int budget, int state, int steps) {
            int most = 0;
            for (int action = 0; action < chain.actions[state]; action++) {
                int row = rowOf(state, action);
                for (int next = 0; next < chain.states; next++) {
                    if (weights[row] > 0 && chain.percentTo(row, next) > 0) {
                        int sum = chain.amountOf(row, budget) + greatest[(steps - 1) * MOST_STATES + next];
                        most = Math.max(most, sum);
                    }
                }
            }
            return most;
        }
    }

    /**
     * The pure rule sets, in the order of their actions in state 0, then in state 1, and so on. What they gain and use
     * depends on the start state and the horizon alone, so it is kept until one of these becomes another.
     */
    private static final class PureSets {
        private final Chain chain;
        private final Settings now;
        private final Flows flows;
        private final long[] gains = new long[MOST_SETS];
        private final long[] used = new long[MOST_SETS * MOST_BUDGETS];
        private int madeStart = NONE;
        private int madeHorizon = NONE;
        /** The number of the set that is looked at, and its action in each state. */
        private int set;
        private final int[] choice = new int[MOST_STATES];
        private final int[] weights = new int[ROWS];
        /** The actions of the best set, if findBest has found one. */
        final int[] best = new int[MOST_STATES];

        PureSets(Chain told, Settings settings, Flows followed) {
            chain = told;
            now = settings;
            flows = followed;
        }

        void forget() {
            madeStart = NONE;
        }

        /** Finds the best set if a budget had so much more, and answers its gain, or NOTHING. */
        long findBest(int budget, int more) {
            fill();
            long greatest = NOTHING;
            boolean going = begin();
            for (int k = 0; k < MOST_SETS && going; k++) {
                if (isPermittedSet() && holds(budget, more) && gains[set] > greatest) {
                    greatest = gains[set];
                    copyRow(choice, best);
                }
                going = moveOn();
            }
            return greatest;
        }

        int countHolding() {
            fill();
            int count = 0;
            boolean going = begin();
            for (int k = 0; k < MOST_SETS && going; k++) {
                if (isPermittedSet() && holds(NONE, 0)) {
                    count++;
                }
                going = moveOn();
            }
            return count;
        }

        int smallestLimit(int budget) {
            fill();
            int smallest = NONE;
            boolean going = begin();
            for (int k = 0; k < MOST_SETS && going; k++) {
                // No run can use more than MOST_LIMIT, so with so much more this budget always holds.
                if (isPermittedSet() && holds(budget, MOST_LIMIT)) {
                    int limit = limitFor(budget);
                    smallest = smallest == NONE ? limit : Math.min(smallest, limit);
                }
                going = moveOn();
            }
            return smallest;
        }

        void writeWeights(int[] actions, int[] target) {
            for (int state = 0; state < chain.states; state++) {
                setWeights(target, state, 0, 0, 0);
                target[rowOf(state, actions[state])] = ALL_WEIGHT;
            }
        }

        private void fill() {
            if (madeStart == now.start && madeHorizon == now.horizon) {
                return;
            }
            boolean going = begin();
            for (int k = 0; k < MOST_SETS && going; k++) {
                writeWeights(choice, weights);
                flows.follow(weights, now.start, now.horizon);
                gains[set] = flows.gainOf(weights);
                for (int budget = 0; budget < chain.budgets; budget++) {
                    used[set * MOST_BUDGETS + budget] = flows.usedOf(weights, budget);
                }
                going = moveOn();
            }
            madeStart = now.start;
            madeHorizon = now.horizon;
        }

        private boolean begin() {
            set = 0;
            Arrays.fill(choice, 0);
            return true;
        }

        /** Goes to the next set; false if there is none. */
        private boolean moveOn() {
            for (int state = chain.states - 1; state >= 0; state--) {
                if (choice[state] + 1 < chain.actions[state]) {
                    choice[state]++;
                    set++;
                    return set < MOST_SETS;
                }
                choice[state] = 0;
            }
            return false;
        }

        private boolean isPermittedSet() {
            for (int state = 0; state < chain.states; state++) {
                if (!now.permits(state, choice[state])) {
                    return false;
                }
            }
            return true;
        }

        private boolean holds(int greaterBudget, int more) {
            long unit = unitOf(now.horizon);
            for (int budget = 0; budget < chain.budgets; budget++) {
                int limit = budget == greaterBudget ? now.limits[budget] + more : now.limits[budget];
                if (used[set * MOST_BUDGETS + budget] > limit * unit) {
                    return false;
                }
            }
            return true;
        }

        private int limitFor(int budget) {
            long unit = unitOf(now.horizon);
            long amount = used[set * MOST_BUDGETS + budget];
            return unit > 0 ? (int) ((amount + unit - 1) / unit) : NONE;
        }
    }

    /** The values of steps from states. */
    private static final class Values {
        private final Chain chain;
        private final Settings now;
        private final long[] values = new long[TIMES * MOST_STATES];

        Values(Chain told, Settings settings) {
            chain = told;
            now = settings;
        }

        void fill() {
            Arrays.fill(values, 0);
            for (int n = 1; n <= MOST_STEPS; n++) {
                for (int state = 0; state < chain.states; state++) {
                    int action = firstAction(state, n);
                    values[n * MOST_STATES + state] = valueOver(rowOf(state, action), n);
                }
            }
        }

        long of(int state, int n) {
            return values[n * MOST_STATES + state];
        }

        int firstAction(int state, int n) {
            int first = NONE;
            long greatest = NOTHING;
            for (int action = 0; action < chain.actions[state]; action++) {
                long value = valueOver(rowOf(state, action), n);
                if (now.permits(state, action) && (first == NONE || value > greatest)) {
                    first = action;
                    greatest = value;
                }
            }
            // An action of each state is always permitted.
            return Math.max(first, 0);
        }

        private long valueOver(int row, int n) {
            long value = chain.gains[row];
            for (int k = 1; k < n; k++) {
                value *= ALL_PERCENT;
            }
            for (int next = 0; next < chain.states; next++) {
                value += chain.percentTo(row, next) * of(next, n - 1);
            }
            return value;
        }
    }

    /** Draws steps from a seed. */
    private static final class Walker {
        private static final int FACTOR = 109;
        private static final int ADDEND = 1021;

        private final Chain chain;
        int seed;
        int state;
        /** The action of the latest step. */
        int action;

        Walker(Chain told) {
            chain = told;
        }

        void step(int[] weights) {
            action = drawAction(weights, draw() % ALL_WEIGHT);
            state = drawNext(rowOf(state, action), draw() % ALL_PERCENT);
        }

        int gainOfNext(Settings settings) {
            state = settings.start;
            int sum = 0;
            for (int t = 0; t < settings.horizon; t++) {
                int from = state;
                step(settings.weights);
                sum += chain.gains[rowOf(from, action)];
            }
            return sum;
        }

        private int draw() {
            seed = (seed * FACTOR + ADDEND) % SEEDS;
            return seed;
        }

        private int drawAction(int[] weights, int drawn) {
            int sum = 0;
            for (int k = 0; k < chain.actions[state]; k++) {
                sum += weights[rowOf(state, k)];
                if (sum > drawn) {
                    return k;
                }
            }
            return 0;
        }

        private int drawNext(int row, int drawn) {
            int sum = 0;
            for (int k = 0; k < chain.told[row]; k++) {
                int next = chain.tells[row * MOST_STATES + k];
                sum += chain.percentTo(row, next);
                if (sum > drawn) {
                    return next;
                }
            }
            return state;
        }
    }

    /** The text that report writes. */
    private static final class Report {
        /** The digits of the greatest flow, 1000 to the power of 5. */
        private static final int MOST_DIGITS = 16;

        /** A part has a comma, a digit and a colon beside its flow. */
        final byte[] bytes = new byte[MOST_STATES * (MOST_DIGITS + 3)];
        int length;

        void addPart(int state, long flow) {
            if (length > 0) {
                addByte(',');
            }
            addByte('0' + state);
            addByte(':');
            addNumber(flow);
        }

        private void addNumber(long number) {
            long power = 1;
            for (int digits = 1; digits < MOST_DIGITS && power <= number / 10; digits++) {
                power *= 10;
            }
            for (long place = power; place > 0; place /= 10) {
                addByte('0' + (int) (number / place % 10));
            }
        }

        private void addByte(int b) {
            if (length < bytes.length) {
                bytes[length] = (byte) b;
                length++;
            }
        }
    }
}
