import java.math.BigInteger;
import java.util.ArrayDeque;
import java.util.ArrayList;
import java.util.Arrays;
import java.util.Deque;
import java.util.HashMap;
import java.util.List;
import java.util.Map;
import java.util.TreeMap;

/**
 * The document once more, as slowly and as differently as can be: every run is written down with its probability, and
 * each answer is summed over the runs that it speaks of.
 */
final class Model {
    /** An action: what it gains and uses, and pairs of a state and a percent, in the order of the text. */
    static final class Act {
        int gain;
        final int[] amounts = new int[3];
        final List<int[]> next = new ArrayList<>();

        int percent(int state) {
            for (int[] pair : next) {
                if (pair[0] == state) {
                    return pair[1];
                }
            }
            return 0;
        }
    }

    /** What changes touch. */
    static final class Now {
        int[][] weights;
        boolean[][] permitted;
        int[] limits;
        int start;
        int horizon;
        int seed;
        int[] walkStates;
        int[] walkActions;

        Now copy() {
            Now other = new Now();
            other.weights = copyOf(weights);
            other.permitted = new boolean[permitted.length][];
            for (int k = 0; k < permitted.length; k++) {
                other.permitted[k] = permitted[k].clone();
            }
            other.limits = limits.clone();
            other.start = start;
            other.horizon = horizon;
            other.seed = seed;
            other.walkStates = walkStates;
            other.walkActions = walkActions;
            return other;
        }
    }

    /** A run: its states and actions, and its probability times unit to the power of the horizon. */
    record Run(int[] states, int[] actions, BigInteger chance) {
    }

    /** A pure rule set with what it gains and uses, times U. */
    record Pure(int[] choice, BigInteger gain, BigInteger[] used) {
    }

    final List<List<Act>> acts = new ArrayList<>();
    int budgets;
    Now now = new Now();
    final Deque<Now> before = new ArrayDeque<>();
    final Now[] slots = new Now[2];
    private String runsKey = "";
    private List<Run> runsKept;
    private final Map<String, List<Pure>> pureKept = new HashMap<>();

    static int[][] copyOf(int[][] rows) {
        int[][] other = new int[rows.length][];
        for (int k = 0; k < rows.length; k++) {
            other[k] = rows[k].clone();
        }
        return other;
    }

    static BigInteger big(long number) {
        return BigInteger.valueOf(number);
    }

    int states() {
        return acts.size();
    }

    Act act(int state, int action) {
        return acts.get(state).get(action);
    }

    // ---- runs

    List<Run> runs(int[][] weights) {
        List<Run> all = new ArrayList<>();
        collect(weights, new int[now.horizon + 1], new int[now.horizon], 0, BigInteger.ONE, all);
        return all;
    }

    List<Run> runs() {
        String key = Arrays.deepToString(now.weights) + now.start + "," + now.horizon;
        if (!key.equals(runsKey)) {
            runsKey = key;
            runsKept = runs(now.weights);
        }
        return runsKept;
    }

    private void collect(int[][] weights, int[] row, int[] drawn, int t, BigInteger chance, List<Run> all) {
        if (t == 0) {
            row[0] = now.start;
        }
        if (t == now.horizon) {
            all.add(new Run(row.clone(), drawn.clone(), chance));
            return;
        }
        List<Act> here = acts.get(row[t]);
        for (int action = 0; action < here.size(); action++) {
            if (weights[row[t]][action] > 0) {
                for (int[] pair : here.get(action).next) {
                    drawn[t] = action;
                    row[t + 1] = pair[0];
                    collect(weights, row, drawn, t + 1, chance.multiply(big(weights[row[t]][action] * pair[1])), all);
                }
            }
        }
    }

    /** A chance times 1000 to the power of the horizon, as one times factor times 1000 to the power of the time. */
    private long scaled(BigInteger chance, int factor, int power) {
        BigInteger[] parts = chance.multiply(big(factor)).multiply(big(1000).pow(power))
                .divideAndRemainder(big(1000).pow(now.horizon));
        if (parts[1].signum() != 0) {
            throw new AssertionError("a number of the document is no integer");
        }
        return parts[0].longValueExact();
    }

    long flow(int state, int t) {
        BigInteger sum = BigInteger.ZERO;
        for (Run run : runs()) {
            sum = run.states()[t] == state ? sum.add(run.chance()) : sum;
        }
        return scaled(sum, 1, t);
    }

    long use(int state, int action, int t) {
        BigInteger sum = BigInteger.ZERO;
        for (Run run : runs()) {
            sum = run.states()[t] == state && run.actions()[t] == action ? sum.add(run.chance()) : sum;
        }
        return scaled(sum, 10, t);
    }

    long visits(int state) {
        BigInteger sum = BigInteger.ZERO;
        for (Run run : runs()) {
            sum = sum.add(run.chance().multiply(big(Arrays.stream(run.states()).filter(s -> s == state).count())));
        }
        return scaled(sum, 1, now.horizon);
    }

    long hit(int state) {
        BigInteger sum = BigInteger.ZERO;
        for (Run run : runs()) {
            sum = Arrays.stream(run.states()).anyMatch(s -> s == state) ? sum.add(run.chance()) : sum;
        }
        return scaled(sum, 1, now.horizon);
    }

    int reach(int t) {
        int set = 0;
        for (Run run : runs()) {
            set |= 1 << run.states()[t];
        }
        return set;
    }

    boolean isClosed(int set) {
        for (int state = 0; state < states(); state++) {
            for (int action = 0; action < acts.get(state).size(); action++) {
                for (int[] pair : act(state, action).next) {
                    if ((set >> state & 1) == 1 && now.weights[state][action] > 0 && (set >> pair[0] & 1) == 0) {
                        return false;
                    }
                }
            }
        }
        return true;
    }

    int firstTime(int state) {
        for (int t = 0; t <= now.horizon; t++) {
            if ((reach(t) >> state & 1) == 1) {
                return t;
            }
        }
        return -1;
    }

    int busiest(int rank) {
        List<Integer> order = new ArrayList<>();
        for (int state = 0; state < states(); state++) {
            order.add(state);
        }
        Map<Integer, Long> visits = new HashMap<>();
        order.forEach(state -> visits.put(state, visits(state)));
        order.sort((a, b) -> visits.get(b).equals(visits.get(a)) ? a - b : Long.compare(visits.get(b), visits.get(a)));
        return order.get(rank);
    }

    // ---- gains and budgets

    /** The mean of a sum over the actions of a run (budget -1: of the gains), times U. */
    private BigInteger mean(List<Run> runs, int budget) {
        BigInteger sum = BigInteger.ZERO;
        for (Run run : runs) {
            sum = sum.add(run.chance().multiply(big(sumOf(run, budget))));
        }
        return sum.multiply(big(unit())).divide(big(1000).pow(now.horizon));
    }

    private int sumOf(Run run, int budget) {
        int sum = 0;
        for (int t = 0; t < now.horizon; t++) {
            Act act = act(run.states()[t], run.actions()[t]);
            sum += budget < 0 ? act.gain : act.amounts[budget];
        }
        return sum;
    }

    long unit() {
        return big(10).multiply(big(1000).pow(now.horizon - 1)).longValueExact();
    }

    long gainOfRun() {
        return mean(runs(), -1).longValueExact();
    }

    long usedOfRun(int budget) {
        return mean(runs(), budget).longValueExact();
    }

    long left(int budget) {
        return now.limits[budget] * unit() - usedOfRun(budget);
    }

    int broken() {
        int set = 0;
        for (int budget = 0; budget < budgets; budget++) {
            set |= left(budget) < 0 ? 1 << budget : 0;
        }
        return set;
    }

    long within(int budget) {
        BigInteger sum = BigInteger.ZERO;
        for (Run run : runs()) {
            sum = sumOf(run, budget) <= now.limits[budget] ? sum.add(run.chance()) : sum;
        }
        return scaled(sum, 1, now.horizon);
    }

    int mostUsed(int budget) {
        return runs().stream().mapToInt(run -> sumOf(run, budget)).max().orElseThrow();
    }

    float meanGain() {
        return (float) gainOfRun() / (float) unit();
    }

    // ---- the likeliest run

    /** The chances of the rows of states; the rows are in their order. */
    private TreeMap<String, BigInteger> rows() {
        TreeMap<String, BigInteger> rows = new TreeMap<>();
        for (Run run : runs()) {
            rows.merge(Arrays.toString(run.states()), run.chance(), BigInteger::add);
        }
        return rows;
    }

    long likeliest() {
        return rows().values().stream().max(BigInteger::compareTo).orElseThrow().longValueExact();
    }

    int likeliestAt(int t) {
        BigInteger greatest = big(likeliest());
        for (Map.Entry<String, BigInteger> row : rows().entrySet()) {
            if (row.getValue().equals(greatest)) {
                return row.getKey().charAt(1 + 3 * t) - '0';
            }
        }
        throw new AssertionError("no row is the likeliest");
    }

    // ---- best rules

    /** The mean of the gains of n steps with an action (or any permitted one, for -1) first, times 100 to n - 1. */
    private BigInteger valueWith(int state, int action, int n) {
        if (action >= 0) {
            BigInteger value = big(100).pow(n - 1).multiply(big(act(state, action).gain));
            for (int[] pair : act(state, action).next) {
                value = n == 1 ? value : value.add(big(pair[1]).multiply(valueWith(pair[0], -1, n - 1)));
            }
            return value;
        }
        BigInteger greatest = null;
        for (int k = 0; k < acts.get(state).size(); k++) {
            if (now.permitted[state][k]) {
                BigInteger value = valueWith(state, k, n);
                greatest = greatest == null ? value : greatest.max(value);
            }
        }
        return greatest;
    }

    long value(int state, int n) {
        return n == 0 ? 0 : valueWith(state, -1, n).longValueExact();
    }

    int valueAction(int state, int n) {
        BigInteger greatest = valueWith(state, -1, n);
        for (int action = 0; action < acts.get(state).size(); action++) {
            if (now.permitted[state][action] && valueWith(state, action, n).equals(greatest)) {
                return action;
            }
        }
        throw new AssertionError("no action has the value");
    }

    /** All pure rule sets of permitted actions, by their actions in state 0, then in state 1, and so on. */
    private List<Pure> pureRules() {
        List<Pure> permitted = new ArrayList<>();
        for (Pure set : pureKept.computeIfAbsent(now.start + "," + now.horizon, key -> allPure())) {
            boolean all = true;
            for (int state = 0; state < states(); state++) {
                all &= now.permitted[state][set.choice()[state]];
            }
            if (all) {
                permitted.add(set);
            }
        }
        return permitted;
    }

    private List<Pure> allPure() {
        List<Pure> all = new ArrayList<>();
        choose(new int[states()], 0, all);
        return all;
    }

    private void choose(int[] choice, int state, List<Pure> all) {
        if (state == states()) {
            int[][] weights = new int[states()][3];
            for (int s = 0; s < states(); s++) {
                weights[s][choice[s]] = 10;
            }
            List<Run> runs = runs(weights);
            BigInteger[] used = new BigInteger[budgets];
            for (int budget = 0; budget < budgets; budget++) {
                used[budget] = mean(runs, budget);
            }
            all.add(new Pure(choice.clone(), mean(runs, -1), used));
            return;
        }
        for (int action = 0; action < acts.get(state).size(); action++) {
            choice[state] = action;
            choose(choice, state + 1, all);
        }
    }

    private boolean holds(Pure set, int[] limits) {
        for (int budget = 0; budget < budgets; budget++) {
            if (set.used()[budget].compareTo(big(limits[budget]).multiply(big(unit()))) > 0) {
                return false;
            }
        }
        return true;
    }

    Pure best(int[] limits) {
        Pure best = null;
        for (Pure set : pureRules()) {
            if (holds(set, limits) && (best == null || set.gain().compareTo(best.gain()) > 0)) {
                best = set;
            }
        }
        return best;
    }

    long bestGain(int[] limits) {
        Pure best = best(limits);
        return best == null ? Long.MIN_VALUE : best.gain().longValueExact();
    }

    int pureSets() {
        return (int) pureRules().stream().filter(set -> holds(set, now.limits)).count();
    }

    long worth(int budget, int more) {
        int[] limits = now.limits.clone();
        limits[budget] += more;
        long before = bestGain(now.limits);
        return before == Long.MIN_VALUE ? before : bestGain(limits) - before;
    }

    int leastLimit(int budget) {
        int[] limits = now.limits.clone();
        // No run uses more than 495, so the limits above are not tried one by one.
        for (int limit = 0; limit <= 496; limit++) {
            limits[budget] = limit;
            if (best(limits) != null) {
                return limit;
            }
        }
        return -1;
    }

    int bestWeight(int state, int action, int other) {
        int best = -1;
        BigInteger greatest = null;
        for (int weight = 0; weight <= 10; weight++) {
            int[][] weights = copyOf(now.weights);
            weights[state] = new int[3];
            weights[state][action] = 10 - weight;
            weights[state][other] = weight;
            List<Run> runs = runs(weights);
            boolean holds = true;
            for (int budget = 0; budget < budgets; budget++) {
                holds &= mean(runs, budget).compareTo(big(now.limits[budget]).multiply(big(unit()))) <= 0;
            }
            BigInteger gain = mean(runs, -1);
            if (holds && (greatest == null || gain.compareTo(greatest) > 0)) {
                best = weight;
                greatest = gain;
            }
        }
        return best;
    }

    // ---- walks

    /** Draws a walk into the settings. */
    void drawWalk(Now target) {
        target.walkStates = new int[target.horizon + 1];
        target.walkActions = new int[target.horizon];
        target.walkStates[0] = target.start;
        for (int t = 0; t < target.horizon; t++) {
            int state = target.walkStates[t];
            List<Integer> tens = new ArrayList<>();
            for (int action = 0; action < acts.get(state).size(); action++) {
                for (int k = 0; k < target.weights[state][action]; k++) {
                    tens.add(action);
                }
            }
            target.walkActions[t] = tens.get(draw(target) % 10);
            List<Integer> hundreds = new ArrayList<>();
            for (int[] pair : act(state, target.walkActions[t]).next) {
                for (int k = 0; k < pair[1]; k++) {
                    hundreds.add(pair[0]);
                }
            }
            target.walkStates[t + 1] = hundreds.get(draw(target) % 100);
        }
    }

    private static int draw(Now target) {
        target.seed = big(target.seed).multiply(big(109)).add(big(1021)).mod(big(30011)).intValueExact();
        return target.seed;
    }

    int sumOfWalk(Now target, int budget) {
        int sum = 0;
        for (int t = 0; t < target.walkActions.length; t++) {
            Act act = act(target.walkStates[t], target.walkActions[t]);
            sum += budget < 0 ? act.gain : act.amounts[budget];
        }
        return sum;
    }

    int gainOfWalks(int n) {
        Now trial = now.copy();
        int sum = 0;
        for (int k = 0; k < n; k++) {
            drawWalk(trial);
            sum += sumOfWalk(trial, -1);
        }
        return sum;
    }

    String report(int t) {
        List<String> parts = new ArrayList<>();
        for (int state = 0; state < states(); state++) {
            if (flow(state, t) > 0) {
                parts.add(state + ":" + flow(state, t));
            }
        }
        return String.join(",", parts);
    }

    // ---- changes

    void keep() {
        before.addLast(now.copy());
        if (before.size() > 7) {
            before.removeFirst();
        }
    }
}
