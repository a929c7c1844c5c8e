import java.util.ArrayList;
import java.util.Arrays;
import java.util.List;

/** Long runs of drawn calls on drawn chains, each answer beside that of the Model. */
public final class ModelTest {
    private static final int CHAINS = 160;
    private static final int CALLS = 500;

    private long dice = 20261119;
    private DecisionChain x;
    private Model model;
    private String reported = "";
    private int chainNumber;

    public static void main(String[] args) {
        ModelTest test = new ModelTest();
        for (int k = 0; k < CHAINS; k++) {
            test.chainNumber = k;
            test.runChain();
        }
        Check.finish();
    }

    private int roll(int bound) {
        dice = dice * 6364136223846793005L + 1442695040888963407L;
        return (int) ((dice >>> 33) % bound);
    }

    /** Mostly 0 to bound - 1, at times beside it. */
    private int index(int bound) {
        int drawn = roll(40);
        return drawn == 0 ? -1 : drawn == 1 ? bound : drawn == 2 ? roll(2) == 0 ? Integer.MIN_VALUE : Integer.MAX_VALUE
                : roll(Math.max(bound, 1));
    }

    private void runChain() {
        x = new DecisionChain();
        model = new Model();
        reported = "";
        String text = drawChain();
        Check.due(text, model.acts.stream().mapToInt(List::size).sum(), () -> Check.load(x, text));
        checkChain();
        for (int k = 0; k < CALLS; k++) {
            if (roll(4) == 0) {
                change();
            } else {
                ask();
            }
        }
    }

    // ---- drawn chains

    private String drawChain() {
        int states = 1 + roll(6);
        Model.Now now = model.now;
        now.horizon = 1 + roll(5);
        now.seed = roll(30011);
        now.start = 0;
        now.weights = new int[states][3];
        now.permitted = new boolean[states][3];
        List<String> lines = new ArrayList<>();
        model.budgets = roll(4);
        now.limits = new int[model.budgets];
        for (int budget = 0; budget < model.budgets; budget++) {
            now.limits[budget] = roll(3) == 0 ? roll(200) : roll(20);
            lines.add("budget " + now.limits[budget]);
        }
        for (int state = 0; state < states; state++) {
            model.acts.add(new ArrayList<>());
            int actions = 1 + roll(3);
            for (int action = 0; action < actions; action++) {
                lines.add(drawAct(state, states));
                now.permitted[state][action] = true;
            }
            now.weights[state] = drawWeights(actions);
            lines.add("rule " + state + " " + weightsOf(now.weights[state], actions));
        }
        if (roll(2) == 0) {
            now.start = roll(states);
            lines.add("start " + now.start);
        }
        String head = "chain states " + states + " horizon " + now.horizon + " seed " + now.seed;
        return head + ";" + String.join(";", lines);
    }

    /** Few states behind an action keep the number of runs small. */
    private String drawAct(int state, int states) {
        Model.Act act = new Model.Act();
        StringBuilder line = new StringBuilder("act ").append(state);
        act.gain = roll(3) == 0 ? roll(1999) - 999 : roll(7) - 3;
        line.append(act.gain < 0 ? " -" : " ").append(Math.abs(act.gain));
        for (int budget = model.budgets - 1; budget >= 0; budget--) {
            if (roll(2) == 0) {
                act.amounts[budget] = roll(5) == 0 ? 1 + roll(99) : 1 + roll(6);
                line.append(" uses ").append(budget).append(' ').append(act.amounts[budget]);
            }
        }
        int rest = 100;
        for (int left = 1 + roll(2); rest > 0; left--) {
            int next = roll(states);
            while (act.percent(next) > 0) {
                next = (next + 1) % states;
            }
            boolean last = left <= 1 || act.next.size() == states - 1 || rest == 1;
            int percent = last ? rest : roll(2) == 0 ? (rest + 1) / 2 : 1 + roll(rest);
            act.next.add(new int[] {next, percent});
            line.append(" to ").append(next).append(' ').append(percent);
            rest -= percent;
        }
        model.acts.get(state).add(act);
        return line.toString();
    }

    private int[] drawWeights(int actions) {
        int[] weights = new int[3];
        int one = roll(actions);
        weights[one] = roll(3) == 0 ? 10 : roll(11);
        weights[(one + 1) % actions] += 10 - weights[one];
        return weights;
    }

    private String weightsOf(int[] weights, int actions) {
        StringBuilder all = new StringBuilder();
        int last = actions;
        while (last > 1 && weights[last - 1] == 0) {
            last--;
        }
        for (int k = 0; k < last; k++) {
            all.append(k == 0 ? "" : " ").append(weights[k]);
        }
        return all.toString();
    }

    private void checkChain() {
        for (int state = 0; state < model.states(); state++) {
            for (int action = 0; action < model.acts.get(state).size(); action++) {
                int s = state;
                int a = action;
                due("gain", model.act(s, a).gain, () -> x.gain(s, a));
                for (int budget = 0; budget < model.budgets; budget++) {
                    int b = budget;
                    due("uses", model.act(s, a).amounts[b], () -> x.uses(s, a, b));
                }
                for (int next = 0; next < model.states(); next++) {
                    int n = next;
                    due("percent", model.act(s, a).percent(n), () -> x.percent(s, a, n));
                }
            }
        }
    }

    // ---- answers and exceptions

    private void due(String what, Object want, Check.Call call) {
        Check.due("chain " + chainNumber + ": " + what, want, call);
    }

    /** Compares a call with the model, of which only an answer with no exception before it is asked. */
    private void compare(String what, String thrown, Check.Call want, Check.Call call) {
        due(what, thrown != null ? thrown : want.answer(), call);
    }

    private static String first(String... thrown) {
        return Arrays.stream(thrown).filter(name -> name != null).findFirst().orElse(null);
    }

    private String state(int state) {
        return state < 0 || state >= model.states() ? "throws.IndexOutOfBoundsException" : null;
    }

    private String action(int state, int action) {
        return first(state(state), state(state) == null && (action < 0 || action >= model.acts.get(state).size())
                ? "throws.IndexOutOfBoundsException" : null);
    }

    private String budget(int budget) {
        return budget < 0 || budget >= model.budgets ? "throws.IndexOutOfBoundsException" : null;
    }

    private String range(long number, long least, long most) {
        return number < least || number > most ? "throws.IllegalArgumentException" : null;
    }

    private String walk() {
        return model.now.walkStates == null ? "throws.IllegalStateException" : null;
    }

    // ---- questions

    private void ask() {
        int s = index(model.states());
        int a = index(3);
        int b = index(model.budgets);
        int t = index(model.now.horizon + 1);
        if (roll(3) == 0) {
            askSettings(s, a, b);
        } else if (roll(2) == 0) {
            askFlows(s, a, t);
        } else if (roll(2) == 0) {
            askBudgets(b, s, t);
        } else if (roll(2) == 0) {
            askBest(s, b);
        } else {
            askWalks(b, t);
        }
    }

    private void askSettings(int s, int a, int b) {
        switch (roll(9)) {
            case 0 -> due("start", model.now.start, x::start);
            case 1 -> due("horizon", model.now.horizon, x::horizon);
            case 2 -> due("seed", model.now.seed, x::seed);
            case 3 -> due("undoable", model.before.size(), x::undoable);
            case 4 -> compare("weight", action(s, a), () -> model.now.weights[s][a], () -> x.weight(s, a));
            case 5 -> compare("isPermitted", action(s, a), () -> model.now.permitted[s][a], () -> x.isPermitted(s, a));
            case 6 -> compare("limit", budget(b), () -> model.now.limits[b], () -> x.limit(b));
            case 7 -> compare("actions", state(s), () -> model.acts.get(s).size(), () -> x.actions(s));
            default -> {
                int i = roll(reported.length() + 2) - 1;
                String thrown = i < 0 || i >= reported.length() ? "throws.IndexOutOfBoundsException" : null;
                compare("reportByte", thrown, () -> (int) reported.charAt(i), () -> x.reportByte(i));
            }
        }
    }

    private void askFlows(int s, int a, int t) {
        int most = model.now.horizon;
        switch (roll(9)) {
            case 0 -> compare("flow", first(state(s), range(t, 0, most)), () -> model.flow(s, t), () -> x.flow(s, t));
            case 1 -> compare("use", first(action(s, a), range(t, 0, most - 1)), () -> model.use(s, a, t),
                    () -> x.use(s, a, t));
            case 2 -> compare("visits", state(s), () -> model.visits(s), () -> x.visits(s));
            case 3 -> compare("hit", state(s), () -> model.hit(s), () -> x.hit(s));
            case 4 -> compare("reach", range(t, 0, most), () -> model.reach(t), () -> x.reach(t));
            case 5 -> compare("firstTime", state(s), () -> model.firstTime(s), () -> x.firstTime(s));
            case 6 -> compare("busiest", state(s), () -> model.busiest(s), () -> x.busiest(s));
            case 7 -> {
                int set = index(1 << model.states());
                compare("isClosed", range(set, 1, (1 << model.states()) - 1), () -> model.isClosed(set),
                        () -> x.isClosed(set));
            }
            default -> {
                String thrown = range(t, 0, most);
                reported = thrown == null ? model.report(t) : reported;
                compare("report", thrown, () -> reported.length(), () -> x.report(t));
                due("the text", reported, () -> Check.reported(x, reported.length()));
            }
        }
    }

    private void askBudgets(int b, int s, int t) {
        switch (roll(10)) {
            case 0 -> due("unit", model.unit(), x::unit);
            case 1 -> due("gainOfRun", model.gainOfRun(), x::gainOfRun);
            case 2 -> compare("usedOfRun", budget(b), () -> model.usedOfRun(b), () -> x.usedOfRun(b));
            case 3 -> compare("left", budget(b), () -> model.left(b), () -> x.left(b));
            case 4 -> due("broken", model.broken(), x::broken);
            case 5 -> compare("within", budget(b), () -> model.within(b), () -> x.within(b));
            case 6 -> compare("mostUsed", budget(b), () -> model.mostUsed(b), () -> x.mostUsed(b));
            case 7 -> due("meanGain", model.meanGain(), x::meanGain);
            case 8 -> due("likeliest", model.likeliest(), x::likeliest);
            default -> compare("likeliestAt", range(t, 0, model.now.horizon), () -> model.likeliestAt(t),
                    () -> x.likeliestAt(t));
        }
    }

    private void askBest(int s, int b) {
        int n = index(roll(4) == 0 ? 6 : 4);
        int more = roll(2) == 0 ? index(10000) : index(10);
        switch (roll(8)) {
            case 0 -> compare("value", first(state(s), range(n, 0, 5)), () -> model.value(s, n), () -> x.value(s, n));
            case 1 -> compare("valueAction", first(state(s), range(n, 1, 5)), () -> model.valueAction(s, n),
                    () -> x.valueAction(s, n));
            case 2 -> due("bestGain", model.bestGain(model.now.limits), x::bestGain);
            case 3 -> {
                Model.Pure best = model.best(model.now.limits);
                compare("bestAction", state(s), () -> best == null ? -1 : best.choice()[s], () -> x.bestAction(s));
            }
            case 4 -> due("pureSets", model.pureSets(), x::pureSets);
            case 5 -> compare("worth", first(budget(b), range(more, 1, 9999)), () -> model.worth(b, more),
                    () -> x.worth(b, more));
            case 6 -> compare("leastLimit", budget(b), () -> model.leastLimit(b), () -> x.leastLimit(b));
            default -> {
                int a = index(3);
                int other = index(3);
                String same = a == other ? "throws.IllegalArgumentException" : null;
                compare("bestWeight", first(action(s, a), action(s, other), same), () -> model.bestWeight(s, a, other),
                        () -> x.bestWeight(s, a, other));
            }
        }
    }

    private void askWalks(int b, int t) {
        Model.Now now = model.now;
        int steps = now.walkStates == null ? 0 : now.walkActions.length;
        int n = roll(3) == 0 ? index(202) : index(6);
        switch (roll(5)) {
            case 0 -> compare("walked", first(walk(), range(t, 0, steps)), () -> now.walkStates[t], () -> x.walked(t));
            case 1 -> compare("walkedBy", first(walk(), range(t, 0, steps - 1)), () -> now.walkActions[t],
                    () -> x.walkedBy(t));
            case 2 -> compare("walkGain", walk(), () -> model.sumOfWalk(now, -1), x::walkGain);
            case 3 -> compare("walkUsed", first(walk(), budget(b)), () -> model.sumOfWalk(now, b), () -> x.walkUsed(b));
            default -> compare("gainOfWalks", range(n, 1, 200), () -> model.gainOfWalks(n), () -> x.gainOfWalks(n));
        }
    }

    // ---- changes

    private void change() {
        int s = index(model.states());
        int b = index(model.budgets);
        switch (roll(10)) {
            case 0 -> changeRule(s);
            case 1 -> changeToBest();
            case 2, 3 -> changePermission(s, index(3), roll(2) == 0);
            case 4 -> changeLimit(b, roll(3) == 0 ? index(10000) : roll(20));
            case 5 -> changeStart(s);
            case 6 -> changeHorizon(1 + index(5));
            case 7 -> changeWalk();
            case 8 -> changeBack();
            default -> changeSlots(index(2));
        }
    }

    private void changeRule(int s) {
        int[] w = state(s) == null ? drawWeights(model.acts.get(s).size()) : new int[3];
        if (roll(5) == 0) {
            w[roll(3)] += roll(3) - 1;
        }
        boolean right = w[0] + w[1] + w[2] == 10;
        for (int k = 0; k < 3; k++) {
            right &= w[k] >= 0 && (w[k] == 0 || state(s) != null || k < model.acts.get(s).size());
        }
        String thrown = first(state(s), right ? null : "throws.IllegalArgumentException");
        if (thrown == null) {
            model.keep();
            model.now.weights[s] = w;
        }
        compare("setRule", thrown, model::broken, () -> x.setRule(s, w[0], w[1], w[2]));
    }

    private void changeToBest() {
        Model.Pure best = model.best(model.now.limits);
        int others = 0;
        if (best != null) {
            model.keep();
            for (int state = 0; state < model.states(); state++) {
                int[] weights = new int[3];
                weights[best.choice()[state]] = 10;
                others += Arrays.equals(weights, model.now.weights[state]) ? 0 : 1;
                model.now.weights[state] = weights;
            }
        }
        due("takeBest", best == null ? "throws.IllegalStateException" : String.valueOf(others), x::takeBest);
    }

    private void changePermission(int s, int a, boolean permitted) {
        String thrown = action(s, a);
        boolean was = false;
        if (thrown == null) {
            was = model.now.permitted[s][a];
            model.now.permitted[s][a] = permitted;
            int count = 0;
            for (boolean one : model.now.permitted[s]) {
                count += one ? 1 : 0;
            }
            model.now.permitted[s][a] = was;
            thrown = count == 0 ? "throws.IllegalArgumentException" : null;
        }
        if (thrown == null) {
            model.keep();
            model.now.permitted[s][a] = permitted;
        }
        boolean before = was;
        compare("permit", thrown, () -> before, () -> x.permit(s, a, permitted));
    }

    private void changeLimit(int b, int limit) {
        String thrown = first(budget(b), range(limit, 0, 9999));
        int before = 0;
        if (thrown == null) {
            model.keep();
            before = model.now.limits[b];
            model.now.limits[b] = limit;
        }
        int was = before;
        compare("setLimit", thrown, () -> was, () -> x.setLimit(b, limit));
    }

    private void changeStart(int s) {
        int was = model.now.start;
        if (state(s) == null) {
            model.keep();
            model.now.start = s;
        }
        compare("setStart", state(s), () -> was, () -> x.setStart(s));
    }

    private void changeHorizon(int h) {
        int was = model.now.horizon;
        if (range(h, 1, 5) == null) {
            model.keep();
            model.now.horizon = h;
        }
        compare("setHorizon", range(h, 1, 5), () -> was, () -> x.setHorizon(h));
    }

    private void changeWalk() {
        model.keep();
        model.drawWalk(model.now);
        due("walk", model.now.walkStates[model.now.horizon], x::walk);
    }

    private void changeBack() {
        String thrown = model.before.isEmpty() ? "throws.IllegalStateException" : null;
        if (thrown == null) {
            model.now = model.before.removeLast();
        }
        compare("undo", thrown, () -> model.before.size(), x::undo);
    }

    private void changeSlots(int slot) {
        String thrown = slot < 0 || slot > 1 ? "throws.IndexOutOfBoundsException" : null;
        if (roll(2) == 0) {
            if (thrown == null) {
                model.slots[slot] = model.now.copy();
            }
            compare("save", thrown, () -> model.now.seed, () -> x.save(slot));
            return;
        }
        thrown = first(thrown, thrown == null && model.slots[slot] == null ? "throws.IllegalStateException" : null);
        if (thrown == null) {
            model.now = model.slots[slot].copy();
            model.before.clear();
        }
        compare("restore", thrown, () -> model.now.seed, () -> x.restore(slot));
    }
}
