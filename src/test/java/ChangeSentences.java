/** Section 6 and the promises 52 to 62: exceptions, changes, undo and slots. */
final class ChangeSentences extends Sentences {
    /** A change with its name. */
    private record Change(String name, Asked call) {
    }

    /** The changes; none of them leaves the state of the object mid() as it is. */
    private static final Change[] CHANGES = {
        new Change("setRule", x -> x.setRule(0, 1, 9, 0)),
        new Change("takeBest", DecisionChain::takeBest),
        new Change("permit", x -> x.permit(0, 0, false)),
        new Change("setLimit", x -> x.setLimit(1, 9999)),
        new Change("setStart", x -> x.setStart(2)),
        new Change("setHorizon", x -> x.setHorizon(5)),
        new Change("walk", DecisionChain::walk)
    };

    private ChangeSentences() {
    }

    static void run() {
        section(6);
        exceptions();
        severalExceptions();
        nothingChanges();
        stateOfObject();
        undoneChanges();
        latestSeven();
        constants();
        setRule();
        setRuleRefusals();
        takeBest();
        permit();
        permitRefusals();
        setLimit();
        setStart();
        setHorizon();
        walk();
        undo();
        undoable();
        save();
        restore();
        restoreRefusals();
        place("What it is");
        calls();
    }

    /** The call is a change: it can be undone, and behind that all is as before. */
    private static void isChange(Maker maker, String what, Asked call) {
        DecisionChain x = maker.make();
        String before = Whole.ofState(maker.make());
        int count = x.undoable();
        call.of(x);
        due(what + ": undoable()", Math.min(count + 1, 7), x::undoable);
        due(what + ": undo()", count, x::undo);
        due(what + ": behind undo", before, () -> Whole.ofState(x));
    }

    private static DecisionChain behind(Maker maker, Asked... calls) {
        DecisionChain x = maker.make();
        for (Asked call : calls) {
            call.of(x);
        }
        return x;
    }

    // ---- section 6

    private static void exceptions() {
        says("IllegalStateException is thrown if there is no chain (no text was loaded).");
        refused(NO_STATE, DecisionChain::new, "no text", DecisionChain::gainOfRun);
        refused(NO_STATE, Sentences::told, "a wrong text", DecisionChain::gainOfRun);
        due("a chain behind a wrong text", 0L, () -> {
            DecisionChain x = told();
            x.load(TINY.length());
            return x.gainOfRun();
        });
        says("IndexOutOfBoundsException is thrown if there is no such state, action, budget, slot or index;");
        refused(NO_INDEX, Sentences::busy, "state", x -> x.visits(3));
        refused(NO_INDEX, Sentences::busy, "action", x -> x.gain(1, 1));
        refused(NO_INDEX, Sentences::busy, "budget", x -> x.left(2));
        refused(NO_INDEX, Sentences::busy, "slot", x -> x.save(2));
        refused(NO_INDEX, Sentences::busy, "index", x -> x.reportByte(15));
        refused(NO_INDEX, Sentences::busy, "rank", x -> x.busiest(3));
        refused(NO_INDEX, Sentences::busy, "number of bytes", x -> x.load(21));
        says("IllegalArgumentException if another argument is out of its range.");
        refused(NO_ARGUMENT, Sentences::busy, "time", x -> x.reach(4));
        refused(NO_ARGUMENT, Sentences::busy, "set", x -> x.isClosed(8));
        refused(NO_ARGUMENT, Sentences::busy, "steps", x -> x.value(0, 6));
        refused(NO_ARGUMENT, Sentences::busy, "more", x -> x.worth(0, 10000));
        refused(NO_ARGUMENT, Sentences::busy, "walks", x -> x.gainOfWalks(201));
        refused(NO_ARGUMENT, Sentences::busy, "weight", x -> x.setRule(0, 11, -1, 0));
        refused(NO_ARGUMENT, Sentences::busy, "limit", x -> x.setLimit(0, 10000));
        refused(NO_ARGUMENT, Sentences::busy, "horizon", x -> x.setHorizon(6));
    }

    private static void severalExceptions() {
        says("If several exceptions apply, the one that is listed first at the method is thrown.");
        refused(NO_INDEX, Sentences::busy, "load", x -> x.load(-1));
        refused(NO_INDEX, Sentences::busy, "flow", x -> x.flow(3, 4));
        refused(NO_INDEX, Sentences::busy, "use", x -> x.use(0, 2, 3));
        refused(NO_INDEX, Sentences::busy, "value", x -> x.value(3, 6));
        refused(NO_INDEX, Sentences::busy, "valueAction", x -> x.valueAction(3, 0));
        refused(NO_INDEX, Sentences::busy, "worth", x -> x.worth(2, 0));
        refused(NO_INDEX, Sentences::busy, "bestWeight", x -> x.bestWeight(0, 2, 2));
        refused(NO_INDEX, Sentences::busy, "setRule", x -> x.setRule(3, 11, 0, 0));
        refused(NO_INDEX, Sentences::busy, "permit", x -> x.permit(3, 0, false));
        refused(NO_INDEX, Sentences::busy, "permit", x -> x.permit(1, 1, false));
        refused(NO_INDEX, Sentences::busy, "setLimit", x -> x.setLimit(2, -1));
        refused(NO_INDEX, DecisionChain::new, "restore", x -> x.restore(2));
        refused(NO_STATE, DecisionChain::new, "save", x -> x.save(2));
        refused(NO_STATE, Sentences::mid, "walkUsed", x -> x.walkUsed(2));
        refused(NO_STATE, Sentences::mid, "walked", x -> x.walked(-1));
        refused(NO_STATE, DecisionChain::new, "flow", x -> x.flow(-1, -1));
        refused(NO_STATE, DecisionChain::new, "setRule", x -> x.setRule(-1, -1, -1, -1));
    }

    private static void nothingChanges() {
        says("A call of a method that throws an exception changes nothing, except that load empties the input buffer"
                + " and sets parseError() and errorPosition().");
        refused(NO_ARGUMENT, Sentences::busy, "setRule", x -> x.setRule(0, 10, 1, 0));
        refused(NO_ARGUMENT, Sentences::busy, "permit", x -> x.permit(0, 0, false));
        refused(NO_ARGUMENT, Sentences::busy, "setLimit", x -> x.setLimit(0, -1));
        refused(NO_INDEX, Sentences::busy, "setStart", x -> x.setStart(3));
        refused(NO_ARGUMENT, Sentences::busy, "setHorizon", x -> x.setHorizon(0));
        refused(NO_ARGUMENT, Sentences::busy, "report", x -> x.report(4));
        refused(NO_INDEX, Sentences::busy, "save", x -> x.save(-1));
        refused(NO_INDEX, Sentences::busy, "restore", x -> x.restore(-1));
        refused(NO_STATE, () -> behind(Sentences::busy, x -> x.setLimit(0, 0), x -> x.setLimit(1, 0)), "takeBest",
                DecisionChain::takeBest);
        refused(NO_STATE, Sentences::big, "undo", DecisionChain::undo);
        DecisionChain x = busy();
        due("load", NO_ARGUMENT, () -> x.load(16));
        due("the buffer is empty", 0, x::buffered);
        due("parseError()", 1, x::parseError);
        due("errorPosition()", 15, x::errorPosition);
        due("the rest stays", Whole.ofChain(changed()), () -> Whole.ofChain(x));
    }

    private static void stateOfObject() {
        says("The state of the object consists of the rules, the permissions, the limits, the start state, the horizon,"
                + " the seed and the latest walk.");
        for (Change change : CHANGES) {
            String before = Whole.ofState(mid());
            DecisionChain x = mid();
            change.call.of(x);
            String behind = Whole.ofState(x);
            due(change.name + " makes another one", false, () -> behind.equals(before));
            DecisionChain undone = behind(Sentences::mid, change.call, DecisionChain::undo);
            due(change.name + " and undo", before, () -> Whole.ofState(undone));
            DecisionChain restored = behind(Sentences::mid, y -> y.save(1), change.call, y -> y.restore(1));
            due(change.name + " and restore", before, () -> Whole.ofState(restored));
            DecisionChain saved = behind(Sentences::mid, change.call, y -> y.save(0), DecisionChain::undo,
                    y -> y.restore(0));
            due(change.name + ", save, undo and restore", behind, () -> Whole.ofState(saved));
        }
        askedBefore();
        DecisionChain x = busy();
        x.restore(1);
        due("the buffer does not belong to it", 20, x::buffered);
        due("the error does not belong to it", 2, x::parseError);
        due("the slots do not belong to it", Check.answerOf(() -> busy().restore(0)), () -> x.restore(0));
    }

    /** An answer depends on the state of the object alone, not on what was asked before. */
    private static void askedBefore() {
        String first = Whole.ofAnswers(mid());
        for (Change change : CHANGES) {
            String due = Whole.ofAnswers(behind(Sentences::mid, change.call));
            DecisionChain x = behind(Sentences::mid, y -> y.save(0), Whole::ofAnswers, change.call);
            due("answers behind " + change.name, due, () -> Whole.ofAnswers(x));
            x.undo();
            due("answers behind undo of " + change.name, first, () -> Whole.ofAnswers(x));
            DecisionChain y = behind(Sentences::mid, z -> z.save(1), change.call, Whole::ofAnswers, z -> z.restore(1));
            due("answers behind restore, and " + change.name + " before it", first, () -> Whole.ofAnswers(y));
        }
    }

    private static void undoneChanges() {
        says("The methods that are documented as changes can be undone, the latest one first.");
        for (Change change : CHANGES) {
            isChange(Sentences::mid, change.name, change.call);
        }
        DecisionChain x = mid();
        String[] before = new String[CHANGES.length];
        for (int k = 0; k < CHANGES.length; k++) {
            before[k] = Whole.ofState(x);
            CHANGES[k].call.of(x);
        }
        for (int k = CHANGES.length - 1; k >= 0; k--) {
            int left = k;
            due("undo of " + CHANGES[k].name, left, x::undo);
            due("behind undo of " + CHANGES[k].name, before[k], () -> Whole.ofState(x));
        }
        Asked[] none = {y -> y.append(0, 0, 0, 0, 0), y -> y.report(0), y -> y.gainOfWalks(9), y -> y.save(0),
            y -> y.worth(0, 1), y -> y.bestWeight(0, 0, 1), y -> y.leastLimit(0), DecisionChain::bestGain};
        for (Asked call : none) {
            due("what is not documented as a change", 0, () -> behind(Sentences::mid, call).undoable());
        }
    }

    private static void latestSeven() {
        says("Only the latest 7 changes since the last successful call of load or restore are kept for this.");
        for (int count : new int[] {6, 7, 8, 9, 20}) {
            DecisionChain x = mid();
            for (int limit = 1; limit <= count; limit++) {
                x.setLimit(0, limit);
            }
            int kept = Math.min(count, 7);
            due(count + " changes", kept, x::undoable);
            for (int left = kept - 1; left >= 0; left--) {
                int due = left;
                due("undo", due, x::undo);
                int limit = count - kept + left;
                due("limit(0)", limit == 0 ? 10 : limit, () -> x.limit(0));
            }
            due("undo of one more", NO_STATE, x::undo);
            due("behind it", count == 6 || count == 7 ? 10 : count - 7, () -> x.limit(0));
        }
        DecisionChain x = changed();
        due("four changes", 4, x::undoable);
        due("load that fails", NO_ARGUMENT, () -> Check.load(x, "chain"));
        due("four changes", 4, x::undoable);
        due("restore that fails", NO_INDEX, () -> x.restore(2));
        due("four changes", 4, x::undoable);
        x.restore(0);
        due("behind restore", 0, x::undoable);
        x.setLimit(0, 1);
        due("one change", 1, x::undoable);
        Check.load(x, MID);
        due("behind load", 0, x::undoable);
        due("undo", NO_STATE, x::undo);
        DecisionChain y = mid();
        for (int k = 0; k < 9; k++) {
            y.setLimit(0, k);
        }
        y.undo();
        y.undo();
        y.setStart(1);
        y.walk();
        due("two undone, two more", 7, y::undoable);
        for (int k = 6; k >= 0; k--) {
            int due = k;
            due("undo", due, y::undo);
        }
        due("the second of the nine stays", 1, () -> y.limit(0));
    }

    private static void constants() {
        says("- `NONE = -1`: The value for \"none\", -1.");
        due("NONE", -1, () -> DecisionChain.NONE);
        due("errorPosition()", -1, () -> tiny().errorPosition());
        says("- `NOTHING = Long.MIN_VALUE`: The value for a gain that there is not.");
        due("NOTHING", -9223372036854775808L, () -> DecisionChain.NOTHING);
        due("bestGain()", -9223372036854775808L, () -> steady("0", 1, 0).bestGain());
    }

    // ---- promises

    private static void setRule() {
        promise(52);
        says("Sets the weights of a state.");
        DecisionChain x = behind(Sentences::big, y -> y.setRule(5, 2, 3, 5));
        row("weight(5, k)", x, (y, k) -> y.weight(5, k), 2, 3, 5);
        row("weight(4, k)", x, (y, k) -> y.weight(4, k), 10, 0, 0);
        due("what is not permitted may have a weight", 10, () -> behind(Sentences::mid, y -> y.permit(0, 0, false),
                y -> y.setRule(0, 10, 0, 0)).weight(0, 0));
        says("This is a change.");
        isChange(Sentences::busy, "setRule", y -> y.setRule(0, 10, 0, 0));
        isChange(Sentences::tiny, "setRule to the same", y -> y.setRule(0, 10, 0, 0));
        says("- `state`: number of the state");
        due("the first one", 7, () -> behind(Sentences::big, y -> y.setRule(0, 3, 7, 0)).weight(0, 1));
        due("the last one", 8, () -> behind(Sentences::big, y -> y.setRule(5, 2, 8, 0)).weight(5, 1));
        String[] told = {"- `first`: the weight of action 0, 0 to 10", "- `second`: the weight of action 1, 0 to 10",
            "- `third`: the weight of action 2, 0 to 10"};
        for (int action = 0; action < 3; action++) {
            says(told[action]);
            int a = action;
            for (int weight = 0; weight <= 10; weight++) {
                int[] w = {0, 0, 0};
                w[(a + 1) % 3] = 10 - weight;
                w[a] = weight;
                due("weight", weight, () -> behind(Sentences::big, y -> y.setRule(5, w[0], w[1], w[2])).weight(5, a));
            }
            for (int weight : new int[] {-1, 11}) {
                int[] w = {0, 0, 0};
                w[(a + 1) % 3] = 10 - weight;
                w[a] = weight;
                refused(NO_ARGUMENT, Sentences::big, "weight " + weight, y -> y.setRule(5, w[0], w[1], w[2]));
            }
        }
        says("Returns the budgets that do not hold afterwards, as broken() tells them.");
        DecisionChain y = mid();
        y.setLimit(0, 4);
        y.setLimit(1, 1);
        due("both", 3, () -> y.setRule(0, 10, 0, 0));
        due("both", 3, y::broken);
        due("the second", 2, () -> y.setRule(0, 0, 10, 0));
        due("the second", 2, y::broken);
        due("none", 0, () -> mid().setRule(0, 0, 10, 0));
        due("no budgets", 0, () -> tiny().setRule(0, 10, 0, 0));
        due("the third", 4, () -> behind(Sentences::big, z -> z.setStart(5)).setRule(5, 9, 0, 1));
    }

    private static void setRuleRefusals() {
        says("Throws `IndexOutOfBoundsException` if there is no such state");
        noSuchState((x, k) -> x.setRule(k, 10, 0, 0));
        noSuchState((x, k) -> x.setRule(k, 11, -1, 0));
        says("Throws `IllegalArgumentException` if a weight is out of range, the weights do not sum to 10, or an action"
                + " that the state does not have has a weight greater than 0");
        int[][] wrong = {{-1, 11, 0}, {11, -1, 0}, {11, 0, -1}, {-1, 0, 11}, {0, -1, 11}, {0, 11, -1}, {5, 4, 0},
            {5, 5, 1}, {0, 0, 0}, {10, 10, 10}, {3, 3, 3}, {10, 0, -1}, {10, 1, -1}, {-10, 10, 10}, {10, -10, 10},
            {10, 10, -10}, {MOST, MOST, 12}, {10, LEAST, LEAST}, {LEAST, LEAST, 10}, {MOST, 1, LEAST + 10}};
        for (int[] w : wrong) {
            String what = w[0] + " " + w[1] + " " + w[2];
            refused(NO_ARGUMENT, Sentences::big, what, x -> x.setRule(5, w[0], w[1], w[2]));
        }
        refused(NO_ARGUMENT, Sentences::busy, "a third action of two", x -> x.setRule(0, 9, 0, 1));
        refused(NO_ARGUMENT, Sentences::busy, "a third action of two", x -> x.setRule(0, 0, 0, 10));
        refused(NO_ARGUMENT, Sentences::busy, "a second action of one", x -> x.setRule(1, 9, 1, 0));
        refused(NO_ARGUMENT, Sentences::tiny, "a third action of one", x -> x.setRule(0, 9, 0, 1));
        refused(NO_ARGUMENT, Sentences::tiny, "less than the only weight", x -> x.setRule(0, 9, 0, 0));
        refused(NO_ARGUMENT, Sentences::tiny, "below 0 for no action", x -> x.setRule(0, 10, -1, 0));
        due("the last action", 1, () -> behind(Sentences::mid, x -> x.setRule(0, 9, 1, 0)).weight(0, 1));
    }

    private static void takeBest() {
        promise(53);
        says("Sets the weights of all states to those of the best pure rule set.");
        DecisionChain x = behind(Sentences::big, DecisionChain::takeBest);
        row("weight(0, k)", x, (y, k) -> y.weight(0, k), 0, 10, 0);
        for (int state = 1; state < 6; state++) {
            int s = state;
            row("weight(s, k)", x, (y, k) -> y.weight(s, k), 10, 0, 0);
        }
        due("gainOfRun()", x.bestGain(), x::gainOfRun);
        says("This is a change.");
        isChange(Sentences::busy, "takeBest", DecisionChain::takeBest);
        isChange(Sentences::tiny, "takeBest of what is so already", DecisionChain::takeBest);
        says("Returns the number of states whose weights become others by this.");
        due("the states 0 and 5", 2, () -> big().takeBest());
        due("none", 0, () -> behind(Sentences::big, DecisionChain::takeBest).takeBest());
        due("none of one", 0, () -> tiny().takeBest());
        due("all", 6, () -> {
            DecisionChain y = big();
            y.setRule(0, 10, 0, 0);
            for (int state = 1; state < 6; state++) {
                y.setRule(state, 9, 1, 0);
            }
            return y.takeBest();
        });
        says("Throws `IllegalStateException` if there is no chain, or no pure rule set with which all budgets hold");
        refused(NO_STATE, DecisionChain::new, "no chain", DecisionChain::takeBest);
        refused(NO_STATE, Sentences::told, "a wrong text", DecisionChain::takeBest);
        refused(NO_STATE, () -> steady("0", 99, 494), "495 of the LIMIT 494", DecisionChain::takeBest);
        due("495 of the LIMIT 495", 0, () -> steady("0", 99, 495).takeBest());
        refused(NO_STATE, () -> behind(Sentences::busy, y -> y.setLimit(0, 0), y -> y.setLimit(1, 0)), "no set",
                DecisionChain::takeBest);
    }

    private static void permit() {
        promise(54);
        says("Permits an action, or ends this.");
        DecisionChain x = behind(Sentences::big, y -> y.permit(5, 1, false));
        row("isPermitted(5, k)", x, (y, k) -> y.isPermitted(5, k), true, false, true);
        row("isPermitted(4, k)", x, (y, k) -> y.isPermitted(4, k), true, true, true);
        x.permit(5, 1, true);
        row("isPermitted(5, k)", x, (y, k) -> y.isPermitted(5, k), true, true, true);
        says("Rules stay.");
        DecisionChain y = behind(Sentences::mid, z -> z.permit(0, 0, false));
        row("weight(0, k)", y, (z, k) -> z.weight(0, k), 6, 4);
        due("gainOfRun()", 42840000L, y::gainOfRun);
        says("This is a change, even if it is so already.");
        isChange(Sentences::busy, "permit", z -> z.permit(0, 1, true));
        isChange(Sentences::busy, "not permitted already", z -> z.permit(0, 1, false));
        isChange(Sentences::busy, "permitted already", z -> z.permit(0, 0, true));
        isChange(Sentences::tiny, "the only one", z -> z.permit(0, 0, true));
        says("- `state`: number of the state");
        due("the first one", true, () -> behind(Sentences::big, z -> z.permit(0, 0, false)).isPermitted(5, 0));
        due("the last one", false, () -> behind(Sentences::big, z -> z.permit(5, 0, false)).isPermitted(5, 0));
        says("- `action`: number of the action");
        for (int action = 0; action < 3; action++) {
            int a = action;
            row("isPermitted(5, k)", behind(Sentences::big, z -> z.permit(5, a, false)), (z, k) -> z.isPermitted(5, k),
                    a != 0, a != 1, a != 2);
        }
        says("- `permitted`: true if it is permitted from now on");
        due("true", true, () -> behind(Sentences::big, z -> z.permit(5, 2, true)).isPermitted(5, 2));
        due("false", false, () -> behind(Sentences::big, z -> z.permit(5, 2, false)).isPermitted(5, 2));
        says("Returns whether it was permitted before.");
        DecisionChain before = big();
        due("true before, false now", true, () -> before.permit(5, 0, false));
        due("false before, false now", false, () -> before.permit(5, 0, false));
        due("false before, true now", false, () -> before.permit(5, 0, true));
        due("true before, true now", true, () -> before.permit(5, 0, true));
    }

    private static void permitRefusals() {
        says("Throws `IndexOutOfBoundsException` if there is no such state or action");
        noSuchState((x, k) -> x.permit(k, 0, true));
        noSuchState((x, k) -> x.permit(k, 0, false));
        noSuchAction((x, s, a) -> x.permit(s, a, true));
        noSuchAction((x, s, a) -> x.permit(s, a, false));
        says("Throws `IllegalArgumentException` if no action of the state would be permitted");
        refused(NO_ARGUMENT, Sentences::tiny, "the only one", x -> x.permit(0, 0, false));
        refused(NO_ARGUMENT, Sentences::busy, "the other one is not", x -> x.permit(0, 0, false));
        refused(NO_ARGUMENT, Sentences::busy, "the only one of another state", x -> x.permit(2, 0, false));
        for (int last = 0; last < 3; last++) {
            int a = last;
            Maker maker = () -> behind(Sentences::big, x -> x.permit(5, (a + 1) % 3, false),
                    x -> x.permit(5, (a + 2) % 3, false));
            due("the second of three", true, () -> maker.make().isPermitted(5, a));
            refused(NO_ARGUMENT, maker, "the third of three", x -> x.permit(5, a, false));
            due("one that is not permitted", false, () -> maker.make().permit(5, (a + 1) % 3, false));
            due("another state", true, () -> maker.make().permit(4, a, false));
        }
    }

    private static void setLimit() {
        promise(55);
        says("Sets LIMIT of a budget.");
        row("limit", behind(Sentences::big, x -> x.setLimit(1, 51)), DecisionChain::limit, 9999, 51, 0);
        says("This is a change.");
        isChange(Sentences::busy, "setLimit", x -> x.setLimit(0, 0));
        isChange(Sentences::busy, "setLimit to the same", x -> x.setLimit(0, 10));
        says("- `budget`: number of the budget");
        row("limit", behind(Sentences::big, x -> x.setLimit(0, 1)), DecisionChain::limit, 1, 50, 0);
        row("limit", behind(Sentences::big, x -> x.setLimit(2, 1)), DecisionChain::limit, 9999, 50, 1);
        says("- `limit`: 0 to 9999");
        due("0", 0, () -> behind(Sentences::big, x -> x.setLimit(0, 0)).limit(0));
        due("9999", 9999, () -> behind(Sentences::big, x -> x.setLimit(2, 9999)).limit(2));
        says("Returns the previous LIMIT.");
        DecisionChain y = big();
        due("of the text", 50, () -> y.setLimit(1, 0));
        due("the smallest", 0, () -> y.setLimit(1, 9999));
        due("the greatest", 9999, () -> y.setLimit(1, 9999));
        y.undo();
        y.undo();
        due("behind undo", 0, () -> y.setLimit(1, 1));
        says("Throws `IndexOutOfBoundsException` if there is no such budget");
        noSuchBudget((x, k) -> x.setLimit(k, 0));
        noSuchBudget((x, k) -> x.setLimit(k, -1));
        says("Throws `IllegalArgumentException` if limit is out of range");
        beyond(NO_ARGUMENT, Sentences::busy, (x, k) -> x.setLimit(0, k), -1, 10000);
        beyond(NO_ARGUMENT, Sentences::big, (x, k) -> x.setLimit(2, k), -1, 10000);
    }

    private static void setStart() {
        promise(56);
        says("Sets the start state.");
        DecisionChain x = behind(Sentences::mid, y -> y.setStart(2));
        due("start()", 2, x::start);
        row("flow(k, 1)", x, (y, k) -> y.flow(k, 1), 200L, 0L, 800L);
        due("bestGain()", NOTHING, x::bestGain);
        due("the walk begins there", 2,
                () -> behind(Sentences::mid, y -> y.setStart(2), DecisionChain::walk).walked(0));
        says("This is a change.");
        isChange(Sentences::busy, "setStart", y -> y.setStart(2));
        isChange(Sentences::busy, "setStart to the same", y -> y.setStart(0));
        says("- `state`: number of the state");
        due("the first one", 0, () -> behind(Sentences::big, y -> y.setStart(0)).start());
        due("the last one", 5, () -> behind(Sentences::big, y -> y.setStart(5)).start());
        says("Returns the previous start state.");
        DecisionChain before = big();
        due("the smallest", 0, () -> before.setStart(5));
        due("the greatest", 5, () -> before.setStart(5));
        due("the same", 5, () -> before.setStart(1));
        says("Throws `IndexOutOfBoundsException` if there is no such state");
        noSuchState(DecisionChain::setStart);
    }

    private static void setHorizon() {
        promise(57);
        says("Sets H.");
        DecisionChain x = behind(Sentences::mid, y -> y.setHorizon(5));
        due("horizon()", 5, x::horizon);
        due("unit()", 10000000000000L, x::unit);
        row("walked", behind(Sentences::mid, y -> y.setHorizon(1), DecisionChain::walk), DecisionChain::walked, 0, 1,
                NO_ARGUMENT);
        says("The latest walk stays.");
        DecisionChain y = behind(Sentences::mid, DecisionChain::walk, z -> z.setHorizon(1));
        row("walked", y, DecisionChain::walked, 0, 1, 1, 1, NO_ARGUMENT);
        due("walkGain()", 7, y::walkGain);
        due("walkUsed(0)", 3, () -> y.walkUsed(0));
        due("seed()", 27417, y::seed);
        due("there is none before the first one", NO_STATE, x::walkGain);
        says("This is a change.");
        isChange(Sentences::busy, "setHorizon", z -> z.setHorizon(1));
        isChange(Sentences::busy, "setHorizon to the same", z -> z.setHorizon(3));
        says("- `h`: 1 to 5");
        due("1", 1, () -> behind(Sentences::big, z -> z.setHorizon(1)).horizon());
        due("5", 5, () -> behind(Sentences::tiny, z -> z.setHorizon(5)).horizon());
        says("Returns the previous H.");
        DecisionChain before = big();
        due("the greatest", 5, () -> before.setHorizon(1));
        due("the smallest", 1, () -> before.setHorizon(1));
        says("Throws `IllegalArgumentException` if h is out of range");
        beyond(NO_ARGUMENT, Sentences::tiny, DecisionChain::setHorizon, 0, 6);
        beyond(NO_ARGUMENT, Sentences::busy, DecisionChain::setHorizon, 0, 6);
        beyond(NO_ARGUMENT, Sentences::big, DecisionChain::setHorizon, -1, 7);
    }

    private static void walk() {
        promise(58);
        says("Draws a walk (section 4), which replaces the latest one;");
        // Draws: 1784 (action 0), 15411 (state 1), 204, 23257, 15110, 27417.
        DecisionChain x = behind(Sentences::mid, DecisionChain::walk);
        row("walked", x, DecisionChain::walked, 0, 1, 1, 1, NO_ARGUMENT);
        x.setHorizon(1);
        x.setStart(2);
        // Draws: 18385, and 24260 with the d 60, which is beyond the 20 percent to state 0.
        due("walk()", 2, x::walk);
        row("a shorter walk", x, DecisionChain::walked, 2, 2, NO_ARGUMENT);
        row("its action", x, DecisionChain::walkedBy, 0, NO_ARGUMENT);
        x.setHorizon(5);
        x.walk();
        row("a longer walk", x, DecisionChain::walkedBy, 0, 0, 0, 0, 0, NO_ARGUMENT);
        says("the seed stays changed.");
        due("seed()", 27417, () -> behind(Sentences::mid, DecisionChain::walk).seed());
        due("seed() of a second walk", 24260, () -> behind(Sentences::mid, DecisionChain::walk, y -> y.setHorizon(1),
                y -> y.setStart(2), DecisionChain::walk).seed());
        says("This is a change.");
        isChange(Sentences::busy, "walk", DecisionChain::walk);
        isChange(Sentences::tiny, "the first walk", DecisionChain::walk);
        due("no walk behind undo of the first one", NO_STATE, () -> behind(Sentences::tiny, DecisionChain::walk,
                DecisionChain::undo).walked(0));
        says("Returns the state at the end.");
        due("the first one", 0, () -> tiny().walk());
        due("the last one", 5, () -> big().walk());
        due("the second one", 1, () -> mid().walk());
    }

    private static void undo() {
        promise(59);
        says("Undoes the latest change that has not been undone.");
        DecisionChain x = behind(Sentences::mid, y -> y.setLimit(0, 1), y -> y.setLimit(0, 2), y -> y.setLimit(0, 3));
        x.undo();
        due("the third", 2, () -> x.limit(0));
        x.undo();
        due("the second", 1, () -> x.limit(0));
        x.setLimit(0, 4);
        x.undo();
        due("the fourth", 1, () -> x.limit(0));
        x.undo();
        due("the first", 10, () -> x.limit(0));
        says("Returns the number of changes that can still be undone.");
        DecisionChain all = mid();
        for (int k = 0; k < 9; k++) {
            all.setLimit(0, k);
        }
        for (int left = 6; left >= 0; left--) {
            int due = left;
            due("undo()", due, all::undo);
        }
        due("one change", 0, () -> behind(Sentences::tiny, DecisionChain::walk).undo());
        says("Throws `IllegalStateException` if there is none");
        refused(NO_STATE, DecisionChain::new, "no chain", DecisionChain::undo);
        refused(NO_STATE, Sentences::big, "no change", DecisionChain::undo);
        refused(NO_STATE, () -> behind(Sentences::mid, DecisionChain::walk, DecisionChain::undo), "all are undone",
                DecisionChain::undo);
        refused(NO_STATE, () -> behind(Sentences::busy, y -> y.restore(0)), "behind restore", DecisionChain::undo);
        refused(NO_STATE, () -> behind(Sentences::changed, y -> Check.load(y, MID)), "behind load",
                DecisionChain::undo);
    }

    private static void undoable() {
        promise(60);
        says("Returns the number of changes that can be undone, 0 to 7.");
        due("a new object", 0, () -> new DecisionChain().undoable());
        due("a new chain", 0, () -> mid().undoable());
        DecisionChain x = mid();
        for (int k = 1; k <= 9; k++) {
            x.setStart(0);
            due(k + " changes", Math.min(k, 7), x::undoable);
        }
        for (int k = 6; k >= 0; k--) {
            x.undo();
            due("behind undo", k, x::undoable);
        }
        due("undo", NO_STATE, x::undo);
        due("behind a refusal", 0, x::undoable);
        due("setHorizon(6)", NO_ARGUMENT, () -> x.setHorizon(6));
        due("behind a change that was refused", 0, x::undoable);
    }

    private static void save() {
        promise(61);
        says("Saves the state of the object in a slot, in place of what was saved there.");
        Maker maker = () -> behind(Sentences::mid, DecisionChain::walk, y -> y.setLimit(1, 7));
        DecisionChain x = maker.make();
        String saved = Whole.ofState(maker.make());
        x.save(0);
        x.save(1);
        for (Change change : CHANGES) {
            change.call.of(x);
        }
        x.save(1);
        String later = Whole.ofState(x);
        x.restore(0);
        due("the slot 0", saved, () -> Whole.ofState(x));
        x.restore(1);
        due("the slot 1, in place of what was there", later, () -> Whole.ofState(x));
        due("save is no change", 4, () -> behind(Sentences::changed, y -> y.save(0)).undoable());
        due("save changes nothing else", Whole.ofState(changed()), () -> Whole.ofState(behind(Sentences::changed,
                y -> y.save(1))));
        says("- `slot`: 0 or 1");
        due("0", 7, () -> mid().save(0));
        due("1", 7, () -> mid().save(1));
        due("0 does not fill 1", NO_STATE, () -> behind(Sentences::mid, y -> y.save(0)).restore(1));
        due("1 does not fill 0", NO_STATE, () -> behind(Sentences::mid, y -> y.save(1)).restore(0));
        says("Returns the seed.");
        due("the smallest", 0, () -> tiny().save(0));
        due("the greatest", 30010, () -> big().save(1));
        due("behind a walk", 27417, () -> behind(Sentences::mid, DecisionChain::walk).save(1));
        says("Throws `IndexOutOfBoundsException` if there is no such slot");
        beyond(NO_INDEX, Sentences::tiny, DecisionChain::save, -1, 2);
        beyond(NO_INDEX, Sentences::busy, DecisionChain::save, -1, 2);
    }

    private static void restore() {
        promise(62);
        says("Restores what was saved in a slot;");
        DecisionChain x = mid();
        x.save(0);
        String first = Whole.ofState(mid());
        for (Change change : CHANGES) {
            change.call.of(x);
        }
        x.save(1);
        String second = Whole.ofState(x);
        x.restore(0);
        due("the first", first, () -> Whole.ofState(x));
        due("there is no walk", NO_STATE, x::walkGain);
        due("its best gain", 65000000L, x::bestGain);
        x.restore(1);
        due("the second", second, () -> Whole.ofState(x));
        due("its walk", 2, () -> x.walked(0));
        says("it stays saved.");
        x.setHorizon(1);
        x.walk();
        x.undo();
        x.restore(1);
        due("once more", second, () -> Whole.ofState(x));
        x.setRule(0, 5, 5, 0);
        x.permit(0, 0, true);
        x.setLimit(0, 5);
        x.restore(1);
        due("and once more", second, () -> Whole.ofState(x));
        x.restore(0);
        due("so does the first", first, () -> Whole.ofState(x));
        says("Nothing can be undone afterwards.");
        due("undoable()", 0, () -> behind(Sentences::busy, y -> y.restore(0)).undoable());
        due("undo()", NO_STATE, () -> behind(Sentences::busy, y -> y.restore(1)).undo());
        DecisionChain y = behind(Sentences::busy, z -> z.restore(1), z -> z.setLimit(0, 1));
        due("a change behind it", 0, y::undo);
        due("behind undo of it", 10, () -> y.limit(0));
        says("- `slot`: 0 or 1");
        due("0", 7, () -> behind(Sentences::mid, z -> z.save(0)).restore(0));
        due("1", 7, () -> behind(Sentences::mid, z -> z.save(1)).restore(1));
        says("Returns the seed of the restored state.");
        due("of the slot 1", 7, () -> busy().restore(1));
        due("of the slot 0, behind a walk", Check.answerOf(() -> busy().seed()), () -> busy().restore(0));
        due("the smallest", 0, () -> behind(Sentences::tiny, z -> z.save(0), DecisionChain::walk).restore(0));
        due("the greatest", 30010, () -> behind(Sentences::big, z -> z.save(0), DecisionChain::walk).restore(0));
    }

    private static void restoreRefusals() {
        says("Throws `IndexOutOfBoundsException` if there is no such slot");
        beyond(NO_INDEX, DecisionChain::new, DecisionChain::restore, -1, 2);
        beyond(NO_INDEX, Sentences::tiny, DecisionChain::restore, -1, 2);
        beyond(NO_INDEX, Sentences::busy, DecisionChain::restore, -1, 2);
        says("Throws `IllegalStateException` if nothing is saved there");
        for (int slot : new int[] {0, 1}) {
            int k = slot;
            refused(NO_STATE, DecisionChain::new, "no chain", x -> x.restore(k));
            refused(NO_STATE, Sentences::mid, "nothing saved", x -> x.restore(k));
            refused(NO_STATE, () -> behind(Sentences::mid, DecisionChain::walk, x -> x.save(1 - k)), "the other is",
                    x -> x.restore(k));
            refused(NO_STATE, () -> behind(Sentences::changed, x -> Check.load(x, MID)), "behind load",
                    x -> x.restore(k));
        }
    }

    // ---- what it is

    private static void calls() {
        says("An object is used for at most 512 calls after it has been made;");
        DecisionChain x = new DecisionChain();
        // Three calls of append and one of load.
        Check.load(x, TINY);
        int seed = 0;
        for (int k = 4; k < 510; k++) {
            x.walk();
            seed = (int) ((seed * 109L + 1021) % 30011 * 109 + 1021) % 30011;
        }
        int due = seed;
        due("the call 511", due, x::seed);
        due("the call 512", 7, x::undoable);
        DecisionChain appended = new DecisionChain();
        for (int k = 1; k <= 511; k++) {
            appended.append(-1, -1, -1, -1, -1);
        }
        due("the call 512", NONE, () -> appended.append(-1, -1, -1, -1, -1));
    }
}
