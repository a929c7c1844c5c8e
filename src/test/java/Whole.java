/** All that an object answers, as a text; the object is used up by it. */
final class Whole {
    private final DecisionChain x;
    private final StringBuilder all = new StringBuilder();

    private Whole(DecisionChain asked) {
        x = asked;
    }

    static String of(DecisionChain x) {
        Whole whole = new Whole(x);
        whole.addInput();
        whole.addChain();
        whole.addBytes();
        return whole.all.toString();
    }

    /** All but what is in the input buffer and what went wrong in the latest parse. */
    static String ofChain(DecisionChain x) {
        Whole whole = new Whole(x);
        whole.addChain();
        return whole.all.toString();
    }

    /** What is saved by save and given back by undo. */
    static String ofState(DecisionChain x) {
        Whole whole = new Whole(x);
        whole.addState();
        return whole.all.toString();
    }

    /** What is worked out from the state of the object. */
    static String ofAnswers(DecisionChain x) {
        Whole whole = new Whole(x);
        whole.addRuns();
        whole.addStates();
        whole.addBudgets();
        return whole.all.toString();
    }

    private void add(String what, Check.Call call) {
        all.append(what).append(' ').append(Check.answerOf(call)).append('\n');
    }

    private void addInput() {
        add("buffered", x::buffered);
        add("parseError", x::parseError);
        add("errorPosition", x::errorPosition);
    }

    private void addChain() {
        add("states", x::states);
        add("budgets", x::budgets);
        addReport();
        add("gainOfRun", x::gainOfRun);
        add("bestGain", x::bestGain);
        addState();
        add("undoable", x::undoable);
        for (int left = Math.min(x.undoable(), 7); left > 0; left--) {
            add("undo", x::undo);
            addState();
        }
        add("undo", x::undo);
        for (int slot = 0; slot < 2; slot++) {
            int k = slot;
            add("restore", () -> x.restore(k));
            addState();
        }
    }

    private void addRuns() {
        add("gainOfRun", x::gainOfRun);
        add("unit", x::unit);
        add("broken", x::broken);
        add("meanGain", x::meanGain);
        add("likeliest", x::likeliest);
        add("bestGain", x::bestGain);
        add("pureSets", x::pureSets);
        add("gainOfWalks", () -> x.gainOfWalks(5));
        for (int time = 0; time <= 5; time++) {
            int t = time;
            add("reach", () -> x.reach(t));
            add("likeliestAt", () -> x.likeliestAt(t));
        }
    }

    private void addStates() {
        for (int state = 0; state < x.states(); state++) {
            int s = state;
            add("isClosed", () -> x.isClosed(1 << s));
            add("flow", () -> x.flow(s, 3));
            add("use", () -> x.use(s, 0, 0));
            add("visits", () -> x.visits(s));
            add("hit", () -> x.hit(s));
            add("firstTime", () -> x.firstTime(s));
            add("busiest", () -> x.busiest(s));
            add("value", () -> x.value(s, 3));
            add("valueAction", () -> x.valueAction(s, 3));
            add("bestAction", () -> x.bestAction(s));
        }
    }

    private void addBudgets() {
        for (int budget = 0; budget < x.budgets(); budget++) {
            int b = budget;
            add("usedOfRun", () -> x.usedOfRun(b));
            add("left", () -> x.left(b));
            add("within", () -> x.within(b));
            add("mostUsed", () -> x.mostUsed(b));
            add("worth", () -> x.worth(b, 5));
            add("leastLimit", () -> x.leastLimit(b));
        }
        add("bestWeight", () -> x.bestWeight(0, 0, 1));
    }

    private void addReport() {
        for (int i = 0; i < 20; i++) {
            int k = i;
            add("reportByte", () -> x.reportByte(k));
        }
    }

    private void addState() {
        add("horizon", x::horizon);
        add("start", x::start);
        add("seed", x::seed);
        for (int state = 0; state < x.states(); state++) {
            for (int action = 0; action < 3; action++) {
                int s = state;
                int a = action;
                add("weight", () -> x.weight(s, a));
                add("isPermitted", () -> x.isPermitted(s, a));
            }
        }
        for (int budget = 0; budget < x.budgets(); budget++) {
            int b = budget;
            add("limit", () -> x.limit(b));
        }
        addWalk();
    }

    private void addWalk() {
        String answer = "";
        for (int t = 0; t < 7 && !answer.startsWith("throws"); t++) {
            int time = t;
            answer = Check.answerOf(() -> x.walked(time)) + Check.answerOf(() -> x.walkedBy(time));
            all.append("walk ").append(answer).append('\n');
        }
    }

    /** What the buffer holds is seen by parsing it. */
    private void addBytes() {
        int bytes = x.buffered();
        add("load", () -> x.load(bytes));
        addInput();
    }
}
