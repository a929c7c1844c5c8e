/** Section 3 and the promises 36 to 43: values, pure rule sets, and how they depend on the budgets. */
final class BestSentences extends Sentences {
    private static final long U5 = 10000000000000L;
    /** The sets 0 1 and 1 0 gain 5 in two steps, 0 0 gains 3; the set 1 1 gains 7 but uses 2. */
    private static final String TIES = "chain states 2 horizon 2 seed 0;budget 1;act 0 1 to 1 100;"
            + "act 0 3 uses 0 1 to 1 100;act 1 2 to 1 100;act 1 4 uses 0 1 to 1 100";
    /** One step: the action 1 uses 2 and gains 1 more than the action 0; the action 2 uses 50 and gains 8 more. */
    private static final String WEIGHED = "chain states 1 horizon 1 seed 0;budget 1;act 0 1 to 0 100;"
            + "act 0 2 uses 0 2 to 0 100;act 0 9 uses 0 50 to 0 100;rule 0 0 0 10";

    private BestSentences() {
    }

    static void run() {
        section(3);
        pureRules();
        values();
        value();
        valueAction();
        bestGain();
        bestAction();
        pureSets();
        worth();
        leastLimit();
        bestWeight();
        bestWeightArguments();
    }

    /** The greatest chain with other limits. */
    private static DecisionChain limited(int... limits) {
        DecisionChain x = big();
        for (int budget = 0; budget < limits.length; budget++) {
            x.setLimit(budget, limits[budget]);
        }
        return x;
    }

    /** The run goes through all states in five steps; only the last pure rule set holds the second budget. */
    private static DecisionChain lastOfAll() {
        StringBuilder text = new StringBuilder("chain states 6 horizon 5 seed 0;budget 6;budget 0");
        for (int k = 0; k < 6; k++) {
            String next = k == 0 ? " to 1 20 to 2 20 to 3 20 to 4 20 to 5 20" : " to " + k + " 100";
            text.append(";act " + k + " 9 uses 1 1" + next + ";act " + k + " 9 uses 1 1" + next);
            text.append(";act " + k + " 1 uses 0 1" + next);
        }
        return loaded(text.toString());
    }

    private static DecisionChain without(String text, int... pairs) {
        DecisionChain x = loaded(text);
        for (int k = 0; k < pairs.length; k += 2) {
            x.permit(pairs[k], pairs[k + 1], false);
        }
        return x;
    }

    // ---- section 3

    private static void pureRules() {
        says("A pure rule set gives in each state the weight 10 to one permitted action.");
        due("one", 1, () -> tiny().pureSets());
        due("3 to the power of 6", 729, () -> limited(9999, 9999, 9999).pureSets());
        DecisionChain x = limited(9999, 9999, 9999);
        x.permit(5, 2, false);
        due("a state with two permitted actions", 486, x::pureSets);
        x.permit(5, 0, false);
        due("a state with one permitted action", 243, x::pureSets);
        x.takeBest();
        for (int state = 0; state < 6; state++) {
            int s = state;
            row("weight(s, bestAction(s))", x, (y, k) -> y.weight(s, y.bestAction(s)), 10);
        }
        says("The best pure rule set is that with the greatest gain of a run, of those with which all budgets hold;");
        due("the budget 1 is used by 10", 139 * U5, () -> limited(9999, 10).bestGain());
        due("the LIMIT is 1 less", 100 * U5, () -> limited(9999, 9).bestGain());
        due("the budget 0 is used by 18", 139 * U5, () -> limited(18).bestGain());
        due("the LIMIT is 1 less", 109 * U5, () -> limited(17).bestGain());
        due("the budget 2 is used by 25", 141 * U5, () -> limited(9999, 9999, 25).bestGain());
        due("the LIMIT is 1 less", 139 * U5, () -> limited(9999, 9999, 24).bestGain());
        says("of several it has the smallest action in state 0, then in state 1, and so on.");
        row("0 1 and 1 0", loaded(TIES), DecisionChain::bestAction, 0, 1);
        row("states that are not reached", big(), DecisionChain::bestAction, 1, 0, 0, 0, 0, 0);
        row("the first of which is not permitted", without(bigText(), 1, 0, 5, 0), DecisionChain::bestAction,
                1, 1, 0, 0, 0, 1);
        row("0 1 is not permitted", without(TIES, 1, 1), DecisionChain::bestAction, 1, 0);
    }

    private static void values() {
        says("The value of n steps from a state, n from 0 to 5, is the greatest mean of the sum of gains of n steps"
                + " from it, times 100 to the power of n - 1, if before each step any permitted action may be chosen,"
                + " whatever the budgets;");
        row("value(0, n)", big(), (x, n) -> x.value(0, n), 0L, 2L, 2100L, 510000L, 91000000L, 14100000000L);
        row("value(5, n)", big(), (x, n) -> x.value(5, n), 0L, 52L, 10400L, 1560000L, 208000000L, 26000000000L);
        row("value(0, n) with percents", mid(), (x, n) -> x.value(0, n), 0L, 5L, 550L, 65000L);
        row("whatever the budgets", limited(0, 0, 0), (x, n) -> x.value(0, n), 0L, 2L, 2100L, 510000L, 91000000L,
                14100000000L);
        row("permitted actions alone", without(bigText(), 5, 2, 5, 0), (x, n) -> x.value(5, n), 0L, -51L, -3900L);
        row("another action before another step", loaded("chain states 1 horizon 1 seed 0;act 0 -9 to 0 100;"
                + "act 0 7 to 0 100"), (x, n) -> x.value(0, n), 0L, 7L, 1400L, 210000L, 28000000L, 3500000000L,
                NO_ARGUMENT);
        says("it is 0 for n = 0.");
        row("value(k, 0)", big(), (x, k) -> x.value(k, 0), 0L, 0L, 0L, 0L, 0L, 0L, NO_INDEX);
        due("where all gains are below 0", 0L, () -> steady("-999", 1, 0).value(0, 0));
    }

    // ---- promises

    private static void value() {
        promise(36);
        says("Returns the value of n steps from a state (section 3);");
        row("value(k, 3)", mid(), (x, k) -> x.value(k, 3), 65000L, 30000L, 19000L);
        DecisionChain x = tiny();
        due("more steps than H", 0L, () -> x.value(0, 5));
        due("more steps than H", 500000000L, () -> mid().value(1, 5));
        says("permitted actions count as they are now.");
        DecisionChain y = mid();
        y.permit(0, 0, false);
        due("not permitted", -400L, () -> y.value(0, 2));
        y.permit(0, 0, true);
        due("permitted again", 550L, () -> y.value(0, 2));
        y.undo();
        due("behind undo", -400L, () -> y.value(0, 2));
        y.setRule(0, 10, 0, 0);
        due("the weights do not matter", -400L, () -> y.value(0, 2));
        says("- `state`: number of the state");
        due("the first one", 2L, () -> big().value(0, 1));
        due("the last one", 52L, () -> big().value(5, 1));
        says("- `n`: 0 to 5");
        due("0", 0L, () -> big().value(5, 0));
        due("5", 26000000000L, () -> big().value(5, 5));
        says("Returns the value.");
        due("the greatest", 499500000000L, () -> steady("999", 1, 0).value(0, 5));
        due("the smallest", -499500000000L, () -> steady("-999", 1, 0).value(0, 5));
        says("Throws `IndexOutOfBoundsException` if there is no such state");
        noSuchState((z, k) -> z.value(k, 1));
        noSuchState((z, k) -> z.value(k, 6));
        says("Throws `IllegalArgumentException` if n is out of range");
        beyond(NO_ARGUMENT, Sentences::tiny, (z, n) -> z.value(0, n), -1, 6);
        beyond(NO_ARGUMENT, Sentences::busy, (z, n) -> z.value(2, n), -1, 6);
        beyond(NO_ARGUMENT, Sentences::big, (z, n) -> z.value(5, n), -1, 6);
    }

    private static void valueAction() {
        promise(37);
        says("Returns the first action of n steps from a state that have this value.");
        row("valueAction(0, n + 1)", big(), (x, n) -> x.valueAction(0, n + 1), 2, 1, 1, 1, 1, NO_ARGUMENT);
        row("valueAction(1, n + 1)", big(), (x, n) -> x.valueAction(1, n + 1), 2, 0, 0, 1, 1, NO_ARGUMENT);
        row("valueAction(k, 5)", big(), (x, k) -> x.valueAction(k, 5), 1, 1, 0, 0, 0, 2);
        row("permitted actions alone", without(bigText(), 5, 2, 0, 1), (x, k) -> x.valueAction(k, 1), 2, 2, 2, 2, 2, 0);
        says("- `state`: number of the state");
        due("the first one", 1, () -> big().valueAction(0, 5));
        due("the last one", 2, () -> big().valueAction(5, 5));
        says("- `n`: 1 to 5");
        due("1", 2, () -> big().valueAction(0, 1));
        due("5, more than H", 0, () -> tiny().valueAction(0, 5));
        says("Returns the number of the action, of several the smallest one.");
        String same = "chain states 1 horizon 1 seed 0;act 0 -3 to 0 100;act 0 -3 to 0 100;act 0 -3 to 0 100";
        row("all are equal", loaded(same), (x, n) -> x.valueAction(0, n + 1), 0, 0, 0, 0, 0, NO_ARGUMENT);
        row("the first is not permitted", without(same, 0, 0), (x, n) -> x.valueAction(0, n + 1), 1, 1, 1, 1, 1);
        row("the last alone is permitted", without(same, 0, 0, 0, 1), (x, n) -> x.valueAction(0, n + 1), 2, 2, 2, 2, 2);
        row("the last two are the best", loaded(same.replaceFirst("-3", "-4")), (x, n) -> x.valueAction(0, n + 1),
                1, 1);
        says("Throws `IndexOutOfBoundsException` if there is no such state");
        noSuchState((z, k) -> z.valueAction(k, 1));
        noSuchState((z, k) -> z.valueAction(k, 0));
        says("Throws `IllegalArgumentException` if n is out of range");
        beyond(NO_ARGUMENT, Sentences::tiny, (z, n) -> z.valueAction(0, n), 0, 6);
        beyond(NO_ARGUMENT, Sentences::busy, (z, n) -> z.valueAction(2, n), 0, 6);
        beyond(NO_ARGUMENT, Sentences::big, (z, n) -> z.valueAction(5, n), -1, 6);
    }

    private static void bestGain() {
        promise(38);
        says("Returns the gain of a run with the best pure rule set (section 3).");
        due("mean", 65000000L, () -> mid().bestGain());
        due("the greatest chain", 139 * U5, () -> big().bestGain());
        DecisionChain x = big();
        x.setHorizon(1);
        due("another horizon", 0L, x::bestGain);
        x.setStart(5);
        due("another start state", 500L, x::bestGain);
        x.setLimit(0, 0);
        due("another LIMIT", -510L, x::bestGain);
        x.undo();
        x.undo();
        x.undo();
        due("behind undo", 139 * U5, x::bestGain);
        x.permit(0, 1, false);
        due("another permission", 109 * U5, x::bestGain);
        says("Returns the gain;");
        due("of the last one of 729", 5 * U5, () -> lastOfAll().bestGain());
        due("the greatest", 4995 * U5, () -> steady("999", 1, 5).bestGain());
        due("the smallest", -4995 * U5, () -> steady("-999", 1, 5).bestGain());
        due("none", 0L, () -> tiny().bestGain());
        says("NOTHING if there is no pure rule set with which all budgets hold.");
        due("NOTHING", NOTHING, () -> limited(0, 57, 0).bestGain());
        due("58 of the budget 1", -85 * U5, () -> limited(0, 58, 0).bestGain());
        due("5 of the LIMIT 4", NOTHING, () -> steady("1", 1, 4).bestGain());
        due("5 of the LIMIT 5", 5 * U5, () -> steady("1", 1, 5).bestGain());
    }

    private static void bestAction() {
        promise(39);
        says("Returns the action to which the best pure rule set gives the weight 10 in a state.");
        row("bestAction", limited(9999, 9999, 25), DecisionChain::bestAction, 1, 0, 0, 0, 0, 2);
        row("bestAction", limited(1), DecisionChain::bestAction, 0, 1, 0, 1, 0, 1);
        row("the last one of 729", lastOfAll(), DecisionChain::bestAction, 2, 2, 2, 2, 2, 2);
        says("- `state`: number of the state");
        due("the first one", 1, () -> big().bestAction(0));
        due("the last one", 2, () -> limited(9999, 50, 25).bestAction(5));
        due("the only one", 0, () -> tiny().bestAction(0));
        says("Returns the number of the action;");
        due("the smallest", 0, () -> big().bestAction(5));
        due("the greatest", 2, () -> limited(9999, 50, 25).bestAction(5));
        says("NONE if there is no such rule set.");
        row("bestAction", limited(0, 57, 0), DecisionChain::bestAction, NONE, NONE, NONE, NONE, NONE, NONE, NO_INDEX);
        row("58 of the budget 1", limited(0, 58, 0), DecisionChain::bestAction, 1, 0, 1, 0, 1, 0);
        says("Throws `IndexOutOfBoundsException` if there is no such state");
        noSuchState(DecisionChain::bestAction);
        refused(NO_INDEX, () -> limited(0, 0, 0), "bestAction(6) without a set", x -> x.bestAction(6));
    }

    private static void pureSets() {
        promise(40);
        says("Returns the number of pure rule sets with which all budgets hold.");
        due("mean", 2, () -> mid().pureSets());
        due("105", 105, () -> big().pureSets());
        due("the LIMIT of budget 1 is one less than what nine of them use", 96, () -> limited(9999, 49).pureSets());
        due("the LIMIT of budget 0 is one less than what three of them use", 102, () -> limited(17).pureSets());
        DecisionChain x = big();
        x.setHorizon(1);
        due("another horizon", 486, x::pureSets);
        says("Returns the number, 0 to 729.");
        due("the smallest", 0, () -> limited(0, 57, 0).pureSets());
        due("one", 1, () -> tiny().pureSets());
        due("the last one of 729", 1, () -> lastOfAll().pureSets());
        due("the greatest", 729, () -> limited(9999, 9999, 9999).pureSets());
        DecisionChain few = big();
        for (int state = 0; state < 6; state++) {
            few.permit(state, 2, false);
            few.permit(state, 1, false);
        }
        due("one action of each state is permitted", 1, few::pureSets);
    }

    private static void worth() {
        promise(41);
        says("Returns by how much the gain of a run with the best pure rule set would grow if LIMIT of a budget were"
                + " greater.");
        due("24 of 25", 0L, () -> big().worth(2, 24));
        due("25 of 25", 2 * U5, () -> big().worth(2, 25));
        due("2 instead of 1", 0L, () -> limited(1).worth(0, 1));
        due("3 instead of 1", 30 * U5, () -> limited(1).worth(0, 2));
        due("from below 0", 243 * U5, () -> limited(1).worth(0, 17));
        DecisionChain x = big();
        x.worth(2, 25);
        due("LIMIT stays", 0, () -> x.limit(2));
        due("the best gain stays", 139 * U5, x::bestGain);
        due("the best action stays", 0, () -> x.bestAction(5));
        says("- `budget`: number of the budget");
        row("worth(k, 9999)", big(), (y, k) -> y.worth(k, 9999), 0L, 0L, 2 * U5, NO_INDEX);
        row("worth(k, 9999)", limited(17, 9, 0), (y, k) -> y.worth(k, 9999), 0L, 9 * U5, 0L);
        says("- `more`: 1 to 9999");
        due("1", 2 * U5, () -> limited(9999, 50, 24).worth(2, 1));
        due("9999", 2 * U5, () -> big().worth(2, 9999));
        due("9999 more than 9999", 0L, () -> limited(9999, 50, 9999).worth(2, 9999));
        says("Returns the difference;");
        due("the smallest", 0L, () -> big().worth(0, 9999));
        DecisionChain greatest = loaded("chain states 1 horizon 5 seed 0;budget 0;act 0 -999 to 0 100;"
                + "act 0 999 uses 0 1 to 0 100");
        due("the greatest", 9990 * U5, () -> greatest.worth(0, 5));
        due("one less than is needed", 0L, () -> greatest.worth(0, 4));
        says("NOTHING if there is no pure rule set with which all budgets hold now.");
        due("none now, but then", NOTHING, () -> limited(0, 57, 0).worth(0, 9999));
        due("none then", NOTHING, () -> steady("1", 99, 0).worth(0, 1));
        due("one now", 0L, () -> limited(0, 58, 0).worth(0, 1));
        says("Throws `IndexOutOfBoundsException` if there is no such budget");
        noSuchBudget((y, k) -> y.worth(k, 1));
        noSuchBudget((y, k) -> y.worth(k, 0));
        refused(NO_INDEX, () -> limited(0, 0, 0), "worth(3, 1) without a set", y -> y.worth(3, 1));
        says("Throws `IllegalArgumentException` if more is out of range");
        beyond(NO_ARGUMENT, Sentences::busy, (y, k) -> y.worth(1, k), 0, 10000);
        beyond(NO_ARGUMENT, Sentences::big, (y, k) -> y.worth(2, k), -1, 10000);
        refused(NO_ARGUMENT, () -> limited(0, 0, 0), "worth(0, 0) without a set", y -> y.worth(0, 0));
    }

    private static void leastLimit() {
        promise(42);
        says("Finds the smallest LIMIT of a budget, from 0 to 9999, with which there would be a pure rule set with"
                + " which all budgets hold.");
        row("leastLimit", mid(), DecisionChain::leastLimit, 0, 2);
        row("leastLimit", big(), DecisionChain::leastLimit, 1, 0, 0);
        due("the budget 1 has 58", 0, () -> limited(9999, 58).leastLimit(0));
        due("the budget 1 has 57", 1, () -> limited(9999, 57).leastLimit(0));
        due("the budget 1 has 49", 3, () -> limited(9999, 49).leastLimit(0));
        due("the last one of 729", 5, () -> lastOfAll().leastLimit(0));
        due("all actions are permitted", 0, () -> mid().leastLimit(0));
        due("permitted actions alone", 5, () -> without(MID, 0, 1).leastLimit(0));
        due("its own LIMIT does not matter", 1, () -> limited(0, 50, 0).leastLimit(0));
        DecisionChain x = limited(0, 50, 0);
        x.leastLimit(0);
        due("LIMIT stays", 0, () -> x.limit(0));
        says("- `budget`: number of the budget");
        row("leastLimit", tenths(), DecisionChain::leastLimit, 1, 1, 1, NO_INDEX);
        says("Returns this LIMIT;");
        due("the smallest", 0, () -> big().leastLimit(1));
        due("the greatest", 495, () -> steady("1", 99, 0).leastLimit(0));
        due("a part of 1", 1, () -> partOf().leastLimit(0));
        says("NONE if there is none.");
        row("the third one holds with no LIMIT, as what uses it uses the first one", limited(0, 0, 0),
                DecisionChain::leastLimit, 15, 58, NONE);
        DecisionChain none = loaded("chain states 1 horizon 1 seed 0;budget 0;budget 0;"
                + "act 0 0 uses 0 1 uses 1 1 to 0 100");
        row("the other one never holds", none, DecisionChain::leastLimit, NONE, NONE, NO_INDEX);
        none.setLimit(0, 1);
        row("the other one holds", none, DecisionChain::leastLimit, NONE, 1, NO_INDEX);
        says("Throws `IndexOutOfBoundsException` if there is no such budget");
        noSuchBudget(DecisionChain::leastLimit);
    }

    /** The budget is used once with the probability 1 / 100000000. */
    private static DecisionChain partOf() {
        StringBuilder text = new StringBuilder("chain states 6 horizon 5 seed 0;budget 0;act 5 0 to 5 100");
        for (int k = 0; k < 4; k++) {
            text.append(";act " + k + " 0 to " + (k + 1) + " 1 to 5 99");
        }
        text.append(";act 4 0 uses 0 1 to 5 100");
        return loaded(text.toString());
    }

    private static void bestWeight() {
        promise(43);
        says("Finds the weight of another action with which the gain of a run would be greatest, if only these two"
                + " actions of the state had weights and all budgets held;");
        due("2 are used by the weight 5 to 1", 5, () -> loaded(WEIGHED).bestWeight(0, 0, 1));
        due("1 is used by the weight 10 to 1", 0,
                () -> loaded(WEIGHED.replace("uses 0 2", "uses 0 1")).bestWeight(0, 1, 0));
        DecisionChain x = loaded(WEIGHED);
        x.setLimit(0, 35);
        due("50 are used by the weight 7 to 35", 7, () -> x.bestWeight(0, 0, 2));
        x.setLimit(0, 34);
        due("50 are used by the weight 6 to 30", 6, () -> x.bestWeight(0, 0, 2));
        due("the rules stay", 10, () -> x.weight(0, 2));
        // Behind state 0 the rule of state 1 decides: its action 0 gains nothing, its action 1 gains 9.
        DecisionChain behind = loaded("chain states 2 horizon 2 seed 0;act 0 1 to 0 100;act 0 0 to 1 100;"
                + "act 1 0 to 1 100;act 1 9 to 1 100");
        due("the rules of the other states count", 0, () -> behind.bestWeight(0, 0, 1));
        behind.setRule(1, 0, 10, 0);
        due("the rules of the other states count", 10, () -> behind.bestWeight(0, 0, 1));
        behind.undo();
        due("the rules of the other states count", 0, () -> behind.bestWeight(0, 0, 1));
        DecisionChain third = loaded("chain states 1 horizon 1 seed 0;budget 1;act 0 0 uses 0 99 to 0 100;"
                + "act 0 1 to 0 100;act 0 2 uses 0 1 to 0 100");
        due("the first of three has no weight", 10, () -> third.bestWeight(0, 1, 2));
        due("the third of three has no weight", 1, () -> loaded("chain states 1 horizon 1 seed 0;budget 1;"
                + "act 0 1 to 0 100;act 0 2 uses 0 9 to 0 100;act 0 9 uses 0 99 to 0 100;"
                + "rule 0 0 0 10").bestWeight(0, 0, 1));
        says("whether they are permitted does not matter.");
        x.permit(0, 2, false);
        x.permit(0, 0, false);
        due("not permitted", 6, () -> x.bestWeight(0, 0, 2));
        due("one is permitted", 10, () -> x.bestWeight(0, 0, 1));
    }

    private static void bestWeightArguments() {
        says("- `state`: number of the state");
        due("the first one", 0, () -> big().bestWeight(0, 0, 1));
        due("the last one", 10, () -> loaded(bigText() + ";start 5").bestWeight(5, 1, 0));
        says("- `action`: number of the action");
        due("the first one", 5, () -> loaded(WEIGHED).bestWeight(0, 0, 1));
        due("the last one", 10, () -> loaded(WEIGHED).bestWeight(0, 2, 0));
        says("- `other`: number of another action of the state, which has the weight that is returned;");
        DecisionChain x = loaded(WEIGHED);
        x.setLimit(0, 35);
        due("the last one", 7, () -> x.bestWeight(0, 0, 2));
        due("the first one", 3, () -> x.bestWeight(0, 2, 0));
        says("the first one has the rest of 10");
        due("the rest", 3, () -> x.bestWeight(0, 2, 0));
        says("Returns the weight, of several the smallest one;");
        due("the smallest", 0, () -> mid().bestWeight(0, 0, 1));
        due("the greatest", 10, () -> mid().bestWeight(0, 1, 0));
        DecisionChain same = mid();
        same.setStart(1);
        due("of several the smallest", 0, () -> same.bestWeight(0, 1, 0));
        DecisionChain least = loaded("chain states 1 horizon 1 seed 0;budget 1;act 0 1 uses 0 2 to 0 100;"
                + "act 0 1 to 0 100");
        due("of those with which the budgets hold the smallest", 5, () -> least.bestWeight(0, 0, 1));
        says("NONE if the budgets hold with no weight.");
        due("2 of the LIMIT 1", NONE, () -> loaded(WEIGHED).bestWeight(0, 1, 2));
        DecisionChain two = loaded(WEIGHED);
        two.setLimit(0, 2);
        due("2 of the LIMIT 2", 0, () -> two.bestWeight(0, 1, 2));
        says("Throws `IndexOutOfBoundsException` if there is no such state or action");
        noSuchState((y, k) -> y.bestWeight(k, 0, 1));
        noSuchState((y, k) -> y.bestWeight(k, 0, 0));
        noSuchAction((y, s, a) -> y.bestWeight(s, a, 0));
        noSuchAction((y, s, a) -> y.bestWeight(s, 0, a));
        noSuchAction((y, s, a) -> y.bestWeight(s, a, a));
        says("Throws `IllegalArgumentException` if both actions are the same");
        refused(NO_ARGUMENT, Sentences::tiny, "bestWeight(0, 0, 0)", y -> y.bestWeight(0, 0, 0));
        refused(NO_ARGUMENT, Sentences::busy, "bestWeight(0, 1, 1)", y -> y.bestWeight(0, 1, 1));
        refused(NO_ARGUMENT, Sentences::big, "bestWeight(5, 2, 2)", y -> y.bestWeight(5, 2, 2));
    }
}
