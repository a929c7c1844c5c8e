/** Section 1 and the promises 7 to 19: states, actions, rules, and where they lead. */
final class ChainSentences extends Sentences {
    private ChainSentences() {
    }

    static void run() {
        section(1);
        statesAndActions();
        budgetsAndPermissions();
        rules();
        steps();
        counts();
        start();
        actions();
        gain();
        uses();
        percent();
        weight();
        isPermitted();
        limit();
        reach();
        isClosed();
    }

    /** An object without a chain, as its only text is wrong behind all of what it tells. */
    private static DecisionChain failed() {
        DecisionChain x = new DecisionChain();
        Check.answerOf(() -> Check.load(x, bigText() + ";"));
        return x;
    }

    // ---- section 1

    private static void statesAndActions() {
        says("A chain has N states, numbered from 0, and a horizon H.");
        row("actions", tiny(), DecisionChain::actions, 1, NO_INDEX);
        row("actions", mid(), DecisionChain::actions, 2, 1, 1, NO_INDEX);
        row("actions", big(), DecisionChain::actions, 3, 3, 3, 3, 3, 3, NO_INDEX);
        due("the smallest horizon", 1, () -> tiny().horizon());
        due("the greatest horizon", 5, () -> big().horizon());
        says("A state has 1 to 3 actions, numbered from 0 in the order of the text.");
        row("gain", tiny(), (x, k) -> x.gain(0, k), 0, NO_INDEX);
        row("gain", mid(), (x, k) -> x.gain(0, k), 5, -2, NO_INDEX);
        row("gain", big(), (x, k) -> x.gain(5, k), 50, -51, 52, NO_INDEX);
        DecisionChain mixed = loaded("chain states 2 horizon 1 seed 0;act 1 7 to 0 100;act 0 1 to 0 100;"
                + "act 1 8 to 0 100;act 0 2 to 0 100;act 1 9 to 0 100");
        row("gain of lines that are mixed", mixed, (x, k) -> x.gain(1, k), 7, 8, 9);
        row("gain of lines that are mixed", mixed, (x, k) -> x.gain(0, k), 1, 2, NO_INDEX);
        due("a state without an action", NO_ARGUMENT, () -> loaded("chain states 1 horizon 1 seed 0"));
        due("a fourth action", NO_ARGUMENT, () -> loaded(bigText() + ";act 0 0 to 0 100"));
        says("An action has a gain, uses amounts of budgets (0 where none is told), and leads to states with percents"
                + " that sum to 100 (0 for states that are not told).");
        row("uses", big(), (x, k) -> x.uses(5, 2, k), 99, 0, 25);
        row("uses of none", loaded(TINY + ";budget 1;budget 1"), (x, k) -> x.uses(0, 0, k), 0, 0);
        row("uses of a budget that is told later", loaded("chain states 1 horizon 1 seed 0;budget 1;"
                + "act 0 0 uses 0 9 to 0 100;budget 2"), (x, k) -> x.uses(0, 0, k), 9, 0);
        row("percent", big(), (x, k) -> x.percent(5, 1, k), 0, 100, 0, 0, 0, 0);
        row("percent", mid(), (x, k) -> x.percent(0, 0, k), 0, 50, 50);
        due("99 percent", NO_ARGUMENT, () -> loaded("chain states 1 horizon 1 seed 0;act 0 0 to 0 99"));
    }

    private static void budgetsAndPermissions() {
        says("Budgets are numbered from 0 in the order of the text;");
        row("limit", big(), DecisionChain::limit, 9999, 50, 0, NO_INDEX);
        row("limit", mid(), DecisionChain::limit, 10, 4, NO_INDEX);
        row("limit", tiny(), DecisionChain::limit, NO_INDEX);
        says("each has a LIMIT.");
        row("limit of equal ones", tenths(), DecisionChain::limit, 1, 1, 1, NO_INDEX);
        says("At first all actions are permitted.");
        DecisionChain x = mid();
        x.permit(0, 0, false);
        Check.load(x, bigText());
        for (int state = 0; state < 6; state++) {
            int s = state;
            row("isPermitted(" + s + ", k)", x, (y, k) -> y.isPermitted(s, k), true, true, true);
        }
        due("the only action", true, () -> tiny().isPermitted(0, 0));
    }

    private static void rules() {
        says("A rule gives each action of a state a weight;");
        row("weight", big(), (x, k) -> x.weight(5, k), 1, 2, 7, NO_INDEX);
        row("weight", mid(), (x, k) -> x.weight(0, k), 6, 4, NO_INDEX);
        row("weight", tiny(), (x, k) -> x.weight(0, k), 10, NO_INDEX);
        says("the weights of a state sum to 10.");
        due("9", NO_ARGUMENT, () -> loaded(TINY + ";rule 0 9"));
        due("10", 1, () -> Check.load(new DecisionChain(), TINY + ";rule 0 10"));
        due("11", NO_ARGUMENT, () -> loaded(TINY + ";rule 0 11"));
        refused(NO_ARGUMENT, Sentences::big, "setRule(0, 3, 3, 3)", x -> x.setRule(0, 3, 3, 3));
        refused(NO_ARGUMENT, Sentences::big, "setRule(0, 4, 4, 3)", x -> x.setRule(0, 4, 4, 3));
        due("setRule(0, 3, 3, 4)", 4, () -> big().setRule(0, 3, 3, 4));
        says("Without a rule line for a state its action 0 has the weight 10.");
        row("weight", big(), (x, k) -> x.weight(0, k), 10, 0, 0);
        row("weight", big(), (x, k) -> x.weight(4, k), 10, 0, 0);
        DecisionChain again = big();
        again.setRule(4, 0, 0, 10);
        Check.load(again, bigText());
        row("weight after another text", again, (x, k) -> x.weight(4, k), 10, 0, 0);
    }

    private static void steps() {
        says("In a step from a state, an action is drawn with the probability weight / 10, and then the next state with"
                + " the probability percent / 100.");
        row("flow(k, 1)", mid(), (x, k) -> x.flow(k, 1), 400L, 300L, 300L);
        row("flow(k, 1) of the least probability", rare(), (x, k) -> x.flow(k, 1), 999L, 1L, 0L);
        row("flow(k, 1) of the greatest one", big(), (x, k) -> x.flow(k, 1), 0L, 1000L, 0L);
        says("A run has H steps and begins in the start state at the time 0;");
        row("flow(0, t) of one step", tiny(), (x, t) -> x.flow(0, t), 1L, 1000L, NO_ARGUMENT);
        row("use(0, 0, t) of one step", tiny(), (x, t) -> x.use(0, 0, t), 10L, NO_ARGUMENT);
        row("flow(5, t) of five steps", big(), (x, t) -> x.flow(5, t), 0L, 0L, 0L, 0L, 0L, 1000000000000000L,
                NO_ARGUMENT);
        due("five steps gain", 1000000000000000L, () -> big().gainOfRun());
        row("flow(k, 0)", loaded(MID + ";start 2"), (x, k) -> x.flow(k, 0), 0L, 0L, 1L);
        says("after t steps the time is t.");
        for (int time = 0; time <= 5; time++) {
            int t = time;
            due("reach(" + t + ")", 1 << t, () -> big().reach(t));
        }
    }

    // ---- promises

    private static void counts() {
        promise(7);
        says("Returns N;");
        due("the smallest", 1, () -> tiny().states());
        due("the greatest", 6, () -> big().states());
        due("behind a text that is wrong", 3, () -> busy().states());
        says("0 if there is no chain.");
        due("a new object", 0, () -> new DecisionChain().states());
        due("a wrong text", 0, () -> failed().states());
        promise(8);
        says("Returns the number of budgets;");
        due("none", 0, () -> tiny().budgets());
        due("two", 2, () -> mid().budgets());
        due("the greatest", 3, () -> big().budgets());
        due("behind a text that is wrong", 2, () -> busy().budgets());
        says("0 if there is no chain.");
        due("a new object", 0, () -> new DecisionChain().budgets());
        due("a wrong text", 0, () -> failed().budgets());
        promise(9);
        says("Returns H;");
        due("the smallest", 1, () -> tiny().horizon());
        due("the greatest", 5, () -> big().horizon());
        DecisionChain x = big();
        x.setHorizon(1);
        due("behind setHorizon(1)", 1, x::horizon);
        due("behind a text that is wrong", 3, () -> busy().horizon());
        says("0 if there is no chain.");
        due("a new object", 0, () -> new DecisionChain().horizon());
        due("a wrong text", 0, () -> failed().horizon());
    }

    private static void start() {
        promise(10);
        says("Returns the start state.");
        due("without a start line", 0, () -> big().start());
        DecisionChain x = big();
        x.setStart(5);
        due("behind setStart(5)", 5, x::start);
        x.undo();
        due("behind undo", 0, x::start);
        says("Returns the number of the state.");
        due("the last state", 5, () -> loaded(bigText() + ";start 5").start());
        due("the only state", 0, () -> tiny().start());
    }

    private static void actions() {
        promise(11);
        says("Returns the number of actions of a state.");
        row("actions", mid(), DecisionChain::actions, 2, 1, 1);
        says("- `state`: number of the state");
        due("the first one", 3, () -> big().actions(0));
        due("the last one", 3, () -> big().actions(5));
        says("Returns 1 to 3.");
        due("the smallest", 1, () -> tiny().actions(0));
        due("the greatest", 3, () -> big().actions(5));
        DecisionChain x = big();
        x.permit(0, 0, false);
        due("not permitted ones count", 3, () -> x.actions(0));
        says("Throws `IndexOutOfBoundsException` if there is no such state");
        noSuchState(DecisionChain::actions);
    }

    private static void gain() {
        promise(12);
        says("Returns the gain of an action.");
        due("one of the first state", -2, () -> mid().gain(0, 1));
        due("one of the second state", 1, () -> mid().gain(1, 0));
        says("- `state`: number of the state");
        due("the first one", 0, () -> big().gain(0, 0));
        due("the last one", 50, () -> big().gain(5, 0));
        says("- `action`: number of the action");
        row("gain(5, k)", big(), (x, k) -> x.gain(5, k), 50, -51, 52);
        says("Returns the gain.");
        due("the smallest", -999, () -> steady("-999", 1, 0).gain(0, 0));
        due("the greatest", 999, () -> steady("999", 1, 0).gain(0, 0));
        due("none", 0, () -> tiny().gain(0, 0));
        says("Throws `IndexOutOfBoundsException` if there is no such state or action");
        noSuchState((x, k) -> x.gain(k, 0));
        noSuchAction(DecisionChain::gain);
    }

    private static void uses() {
        promise(13);
        says("Returns how much an action uses of a budget.");
        due("told", 3, () -> mid().uses(0, 0, 0));
        due("not told", 0, () -> mid().uses(0, 0, 1));
        says("- `state`: number of the state");
        due("the first one", 1, () -> big().uses(0, 0, 0));
        due("the last one", 6, () -> big().uses(5, 0, 0));
        says("- `action`: number of the action");
        row("uses(5, k, 1)", big(), (x, k) -> x.uses(5, k, 1), 0, 15, 0);
        says("- `budget`: number of the budget");
        row("uses(5, 2, k)", big(), (x, k) -> x.uses(5, 2, k), 99, 0, 25);
        says("Returns the amount.");
        due("the smallest", 1, () -> steady("0", 1, 0).uses(0, 0, 0));
        due("the greatest", 99, () -> steady("0", 99, 0).uses(0, 0, 0));
        says("Throws `IndexOutOfBoundsException` if there is no such state, action or budget");
        noSuchState((x, k) -> x.uses(k, 0, 0));
        noSuchAction((x, s, a) -> x.uses(s, a, 0));
        noSuchBudget((x, k) -> x.uses(0, 0, k));
    }

    private static void percent() {
        promise(14);
        says("Returns the percent with which an action leads to a state.");
        row("percent(2, 0, k)", mid(), (x, k) -> x.percent(2, 0, k), 20, 0, 80);
        says("- `state`: number of the state");
        due("the first one", 100, () -> big().percent(0, 0, 1));
        due("the last one", 100, () -> big().percent(5, 0, 0));
        says("- `action`: number of the action");
        row("percent(5, k, 1)", big(), (x, k) -> x.percent(5, k, 1), 0, 100, 0);
        says("- `next`: number of a state, possibly the same");
        due("the first one", 0, () -> big().percent(5, 2, 0));
        due("the last one, which is the same", 100, () -> big().percent(5, 2, 5));
        due("the only one", 100, () -> tiny().percent(0, 0, 0));
        noSuchState((x, k) -> x.percent(0, 0, k));
        says("Returns the percent.");
        due("the smallest", 1, () -> rare().percent(4, 1, 5));
        due("the greatest", 100, () -> rare().percent(5, 0, 5));
        due("none", 0, () -> rare().percent(5, 0, 4));
        says("Throws `IndexOutOfBoundsException` if there is no such state or action");
        noSuchState((x, k) -> x.percent(k, 0, 0));
        noSuchAction((x, s, a) -> x.percent(s, a, 0));
    }

    private static void weight() {
        promise(15);
        says("Returns the weight of an action.");
        row("weight(0, k)", mid(), (x, k) -> x.weight(0, k), 6, 4);
        row("weight(2, k)", mid(), (x, k) -> x.weight(2, k), 10);
        says("- `state`: number of the state");
        due("the first one", 10, () -> big().weight(0, 0));
        due("the last one", 1, () -> big().weight(5, 0));
        says("- `action`: number of the action");
        row("weight(5, k)", big(), (x, k) -> x.weight(5, k), 1, 2, 7);
        says("Returns 0 to 10.");
        due("the smallest", 0, () -> big().weight(0, 2));
        due("the greatest", 10, () -> big().weight(0, 0));
        DecisionChain x = big();
        x.setRule(5, 0, 0, 10);
        row("behind setRule(5, 0, 0, 10)", x, (y, k) -> y.weight(5, k), 0, 0, 10);
        says("Throws `IndexOutOfBoundsException` if there is no such state or action");
        noSuchState((y, k) -> y.weight(k, 0));
        noSuchAction(DecisionChain::weight);
    }

    private static void isPermitted() {
        promise(16);
        says("Tells whether an action is permitted.");
        DecisionChain x = big();
        x.permit(5, 2, false);
        x.permit(0, 0, false);
        row("isPermitted(5, k)", x, (y, k) -> y.isPermitted(5, k), true, true, false);
        row("isPermitted(0, k)", x, (y, k) -> y.isPermitted(0, k), false, true, true);
        says("- `state`: number of the state");
        due("the first one", false, () -> x.isPermitted(0, 0));
        due("the last one", true, () -> x.isPermitted(5, 0));
        says("- `action`: number of the action");
        due("the first one", true, () -> x.isPermitted(5, 0));
        due("the last one", false, () -> x.isPermitted(5, 2));
        says("Returns true if it is.");
        x.permit(5, 2, true);
        due("permitted again", true, () -> x.isPermitted(5, 2));
        due("the weight does not matter", true, () -> big().isPermitted(0, 1));
        says("Throws `IndexOutOfBoundsException` if there is no such state or action");
        noSuchState((y, k) -> y.isPermitted(k, 0));
        noSuchAction(DecisionChain::isPermitted);
    }

    private static void limit() {
        promise(17);
        says("Returns LIMIT of a budget.");
        row("limit", mid(), DecisionChain::limit, 10, 4);
        says("- `budget`: number of the budget");
        due("the first one", 9999, () -> big().limit(0));
        due("the last one", 0, () -> big().limit(2));
        says("Returns LIMIT.");
        due("the smallest", 0, () -> big().limit(2));
        due("the greatest", 9999, () -> big().limit(0));
        DecisionChain x = big();
        x.setLimit(1, 9999);
        row("behind setLimit(1, 9999)", x, DecisionChain::limit, 9999, 9999, 0);
        says("Throws `IndexOutOfBoundsException` if there is no such budget");
        noSuchBudget(DecisionChain::limit);
    }

    private static void reach() {
        promise(18);
        says("Returns the states in which the run can be at the time t: those with a flow greater than 0.");
        row("reach", mid(), DecisionChain::reach, 1, 7, 7, 7);
        row("a flow of 1 is enough", rare(), DecisionChain::reach, 1, 3, 7, 15, 31, 63);
        DecisionChain x = mid();
        x.setRule(0, 0, 10, 0);
        row("an action of the weight 0", x, DecisionChain::reach, 1, 1, 1, 1);
        x.permit(0, 1, false);
        row("whether it is permitted does not matter", x, DecisionChain::reach, 1, 1, 1, 1);
        says("- `t`: 0 to H");
        row("the smallest chain", tiny(), DecisionChain::reach, 1, 1, NO_ARGUMENT);
        row("the greatest chain", big(), DecisionChain::reach, 1, 2, 4, 8, 16, 32, NO_ARGUMENT);
        DecisionChain y = big();
        y.setHorizon(2);
        row("behind setHorizon(2)", y, DecisionChain::reach, 1, 2, 4, NO_ARGUMENT);
        says("Returns a bit set: bit k is set for state k.");
        y.setStart(5);
        due("the last state", 32, () -> y.reach(0));
        due("all states", 63, () -> rare().reach(5));
        says("Throws `IllegalArgumentException` if t is out of range");
        timeOutOfRange(0, DecisionChain::reach);
    }

    private static void isClosed() {
        promise(19);
        says("Tells whether no state of a set can be left by an action with a weight greater than 0.");
        boolean[] closed = {false, true, false, false, false, false, true};
        for (int set = 1; set <= 7; set++) {
            int all = set;
            due("isClosed(" + all + ")", closed[all - 1], () -> mid().isClosed(all));
        }
        due("the weight 1 and the percent 1 are enough", false, () -> rare().isClosed(1));
        DecisionChain x = mid();
        x.setRule(0, 0, 10, 0);
        due("an action of the weight 0", true, () -> x.isClosed(1));
        x.setRule(0, 1, 9, 0);
        due("an action of the weight 1", false, () -> x.isClosed(1));
        x.permit(0, 0, false);
        due("whether it is permitted does not matter", false, () -> x.isClosed(1));
        says("- `set`: a bit set, 1 to 2 to the power of N, minus 1: bit k is set for state k");
        due("1 of one state", true, () -> tiny().isClosed(1));
        due("1 of six states", false, () -> big().isClosed(1));
        due("32, the last state", false, () -> big().isClosed(32));
        due("63, all states", true, () -> big().isClosed(63));
        due("32, which keeps the run", true, () -> rare().isClosed(32));
        says("Returns true if no such action of a state of the set leads to a state that is not in it.");
        due("one state of two is left", false, () -> mid().isClosed(2 + 4));
        due("a state that is not reached counts", false, () -> mid().isClosed(4));
        DecisionChain last = big();
        last.setRule(5, 0, 0, 10);
        due("the last state keeps the run", true, () -> last.isClosed(32));
        says("Throws `IllegalArgumentException` if set is out of range");
        beyond(NO_ARGUMENT, Sentences::tiny, DecisionChain::isClosed, 0, 2);
        beyond(NO_ARGUMENT, Sentences::tiny, DecisionChain::isClosed, -1, 3);
        beyond(NO_ARGUMENT, Sentences::busy, DecisionChain::isClosed, 0, 8);
        beyond(NO_ARGUMENT, Sentences::big, DecisionChain::isClosed, 0, 64);
        beyond(NO_ARGUMENT, Sentences::big, DecisionChain::isClosed, -63, 65);
    }
}
