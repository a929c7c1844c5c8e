/** Section 2 and the promises 20 to 35: flows, budgets and the likeliest run. */
final class FlowSentences extends Sentences {
    private static final long THOUSAND_5 = 1000000000000000L;
    private static final long U5 = 10000000000000L;
    /** Both states lead to both, with the same percents and gains. */
    private static final String EVEN = "chain states 2 horizon 3 seed 0;act 0 0 to 1 50 to 0 50;"
            + "act 1 0 to 0 50 to 1 50;start 1";

    private FlowSentences() {
    }

    static void run() {
        section(2);
        flows();
        gainsAndBudgets();
        flow();
        use();
        visits();
        hit();
        unit();
        gainOfRun();
        usedOfRun();
        left();
        broken();
        within();
        mostUsed();
        firstTime();
        busiest();
        meanGain();
        likeliest();
        likeliestAt();
    }

    // ---- section 2

    private static void flows() {
        says("The flow of a state at the time t, from 0 to H, is the probability that the run is in it then, times 1000"
                + " to the power of t;");
        row("flow(0, t)", mid(), (x, t) -> x.flow(0, t), 1L, 400L, 220000L, 160000000L, NO_ARGUMENT);
        row("flow(1, t)", mid(), (x, t) -> x.flow(1, t), 0L, 300L, 420000L, 486000000L, NO_ARGUMENT);
        row("flow(2, t)", mid(), (x, t) -> x.flow(2, t), 0L, 300L, 360000L, 354000000L, NO_ARGUMENT);
        due("the greatest", THOUSAND_5, () -> big().flow(5, 5));
        says("it is an integer.");
        due("the least above 0", 1L, () -> rare().flow(5, 5));
        DecisionChain all = rare();
        long sum = 0;
        for (int state = 0; state < 6; state++) {
            sum += all.flow(state, 5);
        }
        long flows = sum;
        due("nothing is lost", THOUSAND_5, () -> flows);
        says("The use of an action of a state at the time t, from 0 to H - 1, is the probability that it is drawn then,"
                + " times 10 times 1000 to the power of t.");
        row("use(0, 0, t)", mid(), (x, t) -> x.use(0, 0, t), 6L, 2400L, 1320000L, NO_ARGUMENT);
        row("use(0, 1, t)", mid(), (x, t) -> x.use(0, 1, t), 4L, 1600L, 880000L, NO_ARGUMENT);
        row("use(2, 0, t)", mid(), (x, t) -> x.use(2, 0, t), 0L, 3000L, 3600000L, NO_ARGUMENT);
        due("the least above 0", 1L, () -> rare().use(4, 1, 4));
        due("the greatest", U5, () -> big().use(4, 0, 4));
        says("The unit is U = 10 times 1000 to the power of H - 1.");
        DecisionChain x = big();
        long unit = 10;
        for (int h = 1; h <= 5; h++) {
            long due = unit;
            x.setHorizon(h);
            due("H " + h, due, x::unit);
            unit *= 1000;
        }
    }

    private static void gainsAndBudgets() {
        says("The gain of a run is the mean of the sum of the gains of its actions, times U.");
        due("mean", 42840000L, () -> mid().gainOfRun());
        due("the greatest", 5 * 999 * U5, () -> steady("999", 1, 0).gainOfRun());
        due("the smallest", -5 * 999 * U5, () -> steady("-999", 1, 0).gainOfRun());
        due("none", 0L, () -> tiny().gainOfRun());
        says("What a run uses of a budget is the mean of the sum of the amounts, times U.");
        due("mean", 35760000L, () -> mid().usedOfRun(0));
        due("mean", 19680000L, () -> mid().usedOfRun(1));
        due("the greatest", 5 * 99 * U5, () -> steady("0", 99, 0).usedOfRun(0));
        due("the least above 0", 1L, () -> rare().usedOfRun(0));
        due("none", 0L, () -> big().usedOfRun(2));
        says("A budget holds if what a run uses of it is at most LIMIT * U.");
        due("9 tenths hold, 10 too, 11 do not", 4, () -> tenths().broken());
        due("495 with the LIMIT 495", 0, () -> steady("0", 99, 495).broken());
        due("495 with the LIMIT 494", 1, () -> steady("0", 99, 494).broken());
        due("nothing with the LIMIT 0", 0, () -> big().broken());
        due("the least above 0 with the LIMIT 0", 1, () -> rare().broken());
        due("pure sets with 495 and the LIMIT 495", 1, () -> steady("0", 99, 495).pureSets());
        due("pure sets with 495 and the LIMIT 494", 0, () -> steady("0", 99, 494).pureSets());
    }

    // ---- promises

    private static void flow() {
        promise(20);
        says("Returns the flow of a state (section 2).");
        row("flow(k, 2)", mid(), (x, k) -> x.flow(k, 2), 220000L, 420000L, 360000L);
        says("- `state`: number of the state");
        due("the first one", 1L, () -> big().flow(0, 0));
        due("the last one", THOUSAND_5, () -> big().flow(5, 5));
        says("- `t`: 0 to H");
        row("H 1", tiny(), (x, t) -> x.flow(0, t), 1L, 1000L, NO_ARGUMENT);
        row("H 5", big(), (x, t) -> x.flow(5, t), 0L, 0L, 0L, 0L, 0L, THOUSAND_5, NO_ARGUMENT);
        says("Returns the flow.");
        due("none", 0L, () -> big().flow(5, 4));
        due("the least above 0", 1L, () -> rare().flow(5, 5));
        DecisionChain x = mid();
        x.setStart(1);
        x.setHorizon(5);
        due("the greatest, of another start state and horizon", THOUSAND_5, () -> x.flow(1, 5));
        x.undo();
        x.undo();
        due("behind undo", 486000000L, () -> x.flow(1, 3));
        says("Throws `IndexOutOfBoundsException` if there is no such state");
        noSuchState((y, k) -> y.flow(k, 0));
        noSuchState((y, k) -> y.flow(k, -1));
        says("Throws `IllegalArgumentException` if t is out of range");
        timeOutOfRange(0, (y, t) -> y.flow(0, t));
    }

    private static void use() {
        promise(21);
        says("Returns the use of an action (section 2).");
        due("6 tenths", 6L, () -> mid().use(0, 0, 0));
        due("4 tenths of 220 of 1000", 880000L, () -> mid().use(0, 1, 2));
        says("- `state`: number of the state");
        due("the first one", 10L, () -> big().use(0, 0, 0));
        due("the last one", 0L, () -> big().use(5, 0, 0));
        due("the last one, from which the run starts", 1L, () -> loaded(bigText() + ";start 5").use(5, 0, 0));
        says("- `action`: number of the action");
        row("use(5, k, 0)", loaded(bigText() + ";start 5"), (x, k) -> x.use(5, k, 0), 1L, 2L, 7L, NO_INDEX);
        says("- `t`: 0 to H - 1");
        row("H 1", tiny(), (x, t) -> x.use(0, 0, t), 10L, NO_ARGUMENT);
        row("H 5", big(), (x, t) -> x.use(4, 0, t), 0L, 0L, 0L, 0L, U5, NO_ARGUMENT);
        says("Returns the use.");
        due("none", 0L, () -> big().use(4, 1, 4));
        due("the least above 0", 1L, () -> rare().use(4, 1, 4));
        says("Throws `IndexOutOfBoundsException` if there is no such state or action");
        noSuchState((y, k) -> y.use(k, 0, 0));
        noSuchState((y, k) -> y.use(k, 0, 5));
        noSuchAction((y, s, a) -> y.use(s, a, 0));
        noSuchAction((y, s, a) -> y.use(s, a, -1));
        says("Throws `IllegalArgumentException` if t is out of range");
        timeOutOfRange(1, (y, t) -> y.use(0, 0, t));
    }

    private static void visits() {
        promise(22);
        says("Returns the mean of the number of times, from 0 to H, at which the run is in a state, times 1000 to the"
                + " power of H.");
        row("visits", mid(), DecisionChain::visits, 1780000000L, 1206000000L, 1014000000L);
        row("the times 0 to 5", big(), DecisionChain::visits, THOUSAND_5, THOUSAND_5, THOUSAND_5, THOUSAND_5,
                THOUSAND_5, THOUSAND_5);
        DecisionChain x = big();
        x.setHorizon(1);
        row("the times 0 and 1", x, DecisionChain::visits, 1000L, 1000L, 0L, 0L, 0L, 0L);
        says("- `state`: number of the state");
        due("the only one", 2000L, () -> tiny().visits(0));
        due("the last one", 1L, () -> rare().visits(5));
        says("Returns this number.");
        due("none", 0L, () -> x.visits(5));
        due("the greatest, of six times", 6 * THOUSAND_5, () -> steady("0", 1, 0).visits(0));
        says("Throws `IndexOutOfBoundsException` if there is no such state");
        noSuchState(DecisionChain::visits);
    }

    private static void hit() {
        promise(23);
        says("Returns the probability that the run is in a state at some time from 0 to H, times 1000 to the power of"
                + " H.");
        row("hit", mid(), DecisionChain::hit, 1000000000L, 486000000L, 468000000L);
        due("at the time 0 alone", THOUSAND_5, () -> big().hit(0));
        due("at the time H alone", THOUSAND_5, () -> big().hit(5));
        DecisionChain x = big();
        x.setHorizon(4);
        due("behind the time H", 0L, () -> x.hit(5));
        says("- `state`: number of the state");
        due("the only one", 1000L, () -> tiny().hit(0));
        due("the last one", 1L, () -> rare().hit(5));
        says("Returns this number.");
        due("none", 0L, () -> x.hit(5));
        due("the greatest: each run counts once", THOUSAND_5, () -> steady("0", 1, 0).hit(0));
        says("Throws `IndexOutOfBoundsException` if there is no such state");
        noSuchState(DecisionChain::hit);
    }

    private static void unit() {
        promise(24);
        says("Returns U (section 2).");
        due("H 3", 10000000L, () -> mid().unit());
        DecisionChain x = mid();
        x.setHorizon(2);
        due("behind setHorizon(2)", 10000L, x::unit);
        says("Returns U.");
        due("the smallest", 10L, () -> tiny().unit());
        due("the greatest", U5, () -> big().unit());
    }

    private static void gainOfRun() {
        promise(25);
        says("Returns the gain of a run (section 2).");
        due("mean", 42840000L, () -> mid().gainOfRun());
        DecisionChain x = mid();
        x.permit(0, 0, false);
        due("whether actions are permitted does not matter", 42840000L, x::gainOfRun);
        says("Returns the gain.");
        x.setRule(0, 0, 10, 0);
        due("below 0", -60000000L, x::gainOfRun);
        due("the greatest", 49950000000000000L, () -> steady("999", 1, 0).gainOfRun());
        due("the smallest", -49950000000000000L, () -> steady("-999", 1, 0).gainOfRun());
    }

    private static void usedOfRun() {
        promise(26);
        says("Returns what a run uses of a budget (section 2).");
        row("usedOfRun", mid(), DecisionChain::usedOfRun, 35760000L, 19680000L);
        says("- `budget`: number of the budget");
        row("tenths", tenths(), DecisionChain::usedOfRun, 9L, 10L, 11L, NO_INDEX);
        says("Returns this number.");
        due("the greatest", 4950000000000000L, () -> steady("0", 99, 0).usedOfRun(0));
        due("the least above 0", 1L, () -> rare().usedOfRun(0));
        due("none", 0L, () -> big().usedOfRun(2));
        says("Throws `IndexOutOfBoundsException` if there is no such budget");
        noSuchBudget(DecisionChain::usedOfRun);
    }

    private static void left() {
        promise(27);
        says("Returns LIMIT * U minus what a run uses of a budget.");
        row("left", mid(), DecisionChain::left, 64240000L, 20320000L);
        says("- `budget`: number of the budget");
        row("tenths", tenths(), DecisionChain::left, 1L, 0L, -1L, NO_INDEX);
        says("Returns the difference, negative if the budget does not hold.");
        due("the greatest", 9999 * U5, () -> loaded(TINY.replace("horizon 1", "horizon 5") + ";budget 9999").left(0));
        due("nothing is left", 0L, () -> steady("0", 99, 495).left(0));
        due("the least below 0", -1L, () -> rare().left(0));
        due("the smallest", -495 * U5, () -> steady("0", 99, 0).left(0));
        says("Throws `IndexOutOfBoundsException` if there is no such budget");
        noSuchBudget(DecisionChain::left);
    }

    private static void broken() {
        promise(28);
        says("Returns the budgets that do not hold.");
        due("none", 0, () -> mid().broken());
        due("the third", 4, () -> tenths().broken());
        due("the least too much", 1, () -> rare().broken());
        due("no budgets", 0, () -> tiny().broken());
        says("Returns a bit set: bit k is set for budget k.");
        DecisionChain x = tenths();
        x.setLimit(1, 0);
        due("the second and the third", 6, x::broken);
        x.setLimit(2, 2);
        due("the second", 2, x::broken);
        x.setLimit(0, 0);
        due("the first and the second", 3, x::broken);
        x.setLimit(2, 1);
        due("all", 7, x::broken);
    }

    private static void within() {
        promise(29);
        says("Returns the probability that the sum of the amounts which the actions of the run use of a budget is at"
                + " most LIMIT, times 1000 to the power of H.");
        DecisionChain x = mid();
        // The sums of budget 1 are 0, 1, 2, 3 and 4.
        long[] due = {300000000L, 420000000L, 552000000L, 760000000L, 1000000000L};
        for (int limit = 0; limit <= 4; limit++) {
            int most = limit;
            x.setLimit(1, most);
            due("LIMIT " + most, due[most], () -> x.within(1));
        }
        due("495 with the LIMIT 494", 0L, () -> steady("0", 99, 494).within(0));
        due("495 with the LIMIT 495", THOUSAND_5, () -> steady("0", 99, 495).within(0));
        due("495 with the LIMIT 496", THOUSAND_5, () -> steady("0", 99, 496).within(0));
        says("- `budget`: number of the budget");
        row("tenths", tenths(), DecisionChain::within, 1000L, 1000L, 900L, NO_INDEX);
        says("Returns this number.");
        due("none", 0L, () -> steady("0", 1, 0).within(0));
        due("almost all", THOUSAND_5 - 100, () -> rare().within(0));
        due("all, with the LIMIT 9999", THOUSAND_5, () -> steady("0", 99, 9999).within(0));
        due("all, of nothing with the LIMIT 0", THOUSAND_5, () -> big().within(2));
        says("Throws `IndexOutOfBoundsException` if there is no such budget");
        noSuchBudget(DecisionChain::within);
    }

    private static void mostUsed() {
        promise(30);
        says("Returns the greatest sum of the amounts that the actions of the run can use of a budget, of all runs with"
                + " a probability greater than 0.");
        row("mostUsed", mid(), DecisionChain::mostUsed, 7, 4);
        due("the least probability", 1, () -> rare().mostUsed(0));
        DecisionChain x = rare();
        x.setHorizon(4);
        due("the time H does not use", 0, () -> x.mostUsed(0));
        DecisionChain y = mid();
        y.setRule(0, 0, 10, 0);
        row("an action of the weight 0", y, DecisionChain::mostUsed, 0, 3);
        y.setStart(2);
        row("another start state", y, DecisionChain::mostUsed, 3, 6);
        says("- `budget`: number of the budget");
        row("tenths", tenths(), DecisionChain::mostUsed, 1, 1, 2, NO_INDEX);
        says("Returns the sum.");
        due("none", 0, () -> big().mostUsed(2));
        due("the greatest", 495, () -> steady("0", 99, 0).mostUsed(0));
        says("Throws `IndexOutOfBoundsException` if there is no such budget");
        noSuchBudget(DecisionChain::mostUsed);
    }

    private static void firstTime() {
        promise(31);
        says("Returns the first time, from 0 to H, at which the run can be in a state.");
        row("firstTime", mid(), DecisionChain::firstTime, 0, 1, 1);
        row("a flow of 1 is enough", rare(), DecisionChain::firstTime, 0, 1, 2, 3, 4, 5);
        says("- `state`: number of the state");
        due("the only one", 0, () -> tiny().firstTime(0));
        due("the last one", 5, () -> big().firstTime(5));
        says("Returns the time;");
        due("the smallest", 0, () -> loaded(bigText() + ";start 5").firstTime(5));
        due("the greatest", 5, () -> big().firstTime(5));
        says("NONE if there is none.");
        DecisionChain x = big();
        x.setHorizon(4);
        row("H 4", x, DecisionChain::firstTime, 0, 1, 2, 3, 4, NONE);
        DecisionChain y = mid();
        y.setRule(0, 0, 10, 0);
        row("never left", y, DecisionChain::firstTime, 0, NONE, NONE);
        says("Throws `IndexOutOfBoundsException` if there is no such state");
        noSuchState(DecisionChain::firstTime);
    }

    private static void busiest() {
        promise(32);
        says("Returns a state by its visits: greater numbers first, of equal ones the smaller state.");
        row("greater ones first", mid(), DecisionChain::busiest, 0, 1, 2);
        row("all are equal", big(), DecisionChain::busiest, 0, 1, 2, 3, 4, 5);
        DecisionChain x = big();
        x.setHorizon(2);
        x.setStart(3);
        row("some are equal", x, DecisionChain::busiest, 3, 4, 5, 0, 1, 2);
        x.setStart(5);
        x.setRule(5, 0, 0, 10);
        row("some are 0", x, DecisionChain::busiest, 5, 0, 1, 2, 3, 4);
        DecisionChain y = mid();
        y.setStart(2);
        row("visits 676, 192 and 3132 million", y, DecisionChain::busiest, 2, 0, 1);
        says("- `rank`: from 0");
        due("0", 0, () -> tiny().busiest(0));
        due("N - 1", 5, () -> big().busiest(5));
        says("Returns the number of the state.");
        due("the first one", 0, () -> big().busiest(0));
        due("the last one", 5, () -> x.busiest(0));
        says("Throws `IndexOutOfBoundsException` if rank is negative or not less than N");
        noSuchState(DecisionChain::busiest);
    }

    private static void meanGain() {
        promise(33);
        says("Returns the gain of a run as a float, divided by U as a float.");
        due("mean", 42840000f / 10000000f, () -> mid().meanGain());
        due("U is no float exactly", (float) 1000000000000000L / (float) U5, () -> big().meanGain());
        // The quotients of the doubles are 109.26 and 0.20816.
        due("the gain 1092600000 is no float exactly", 109.26001f, () -> gaining("113").meanGain());
        DecisionChain x = gaining("0");
        x.setHorizon(5);
        due("neither is U", 0.20816001f, x::meanGain);
        says("Returns the quotient.");
        due("none", 0f, () -> tiny().meanGain());
        due("the greatest", (float) 49950000000000000L / (float) U5, () -> steady("999", 1, 0).meanGain());
        due("the smallest", (float) -49950000000000000L / (float) U5, () -> steady("-999", 1, 0).meanGain());
    }

    private static DecisionChain gaining(String gain) {
        return loaded(MID.replace("act 0 5", "act 0 " + gain));
    }

    private static void likeliest() {
        promise(34);
        says("Returns the greatest probability of a row of H + 1 states in which the run can be at the times 0 to H,"
                + " times 1000 to the power of H.");
        due("mean", 300000000L, () -> mid().likeliest());
        due("two of equal ones", 125000000L, () -> loaded(EVEN).likeliest());
        // Both actions lead to state 1 with 40, more than the 30 of each to a state of its own.
        due("a row's, not that of the actions", 400L, () -> loaded("chain states 3 horizon 1 seed 0;"
                + "act 0 0 to 0 60 to 1 40;act 0 0 to 2 60 to 1 40;act 1 0 to 1 100;act 2 0 to 2 100;"
                + "rule 0 5 5").likeliest());
        DecisionChain x = rare();
        x.setStart(4);
        x.setHorizon(1);
        due("H 1", 999L, x::likeliest);
        says("Returns this number.");
        due("the greatest", THOUSAND_5, () -> big().likeliest());
        due("H 1", 1000L, () -> tiny().likeliest());
        due("the smallest, of all rows of six states", 170L * 170 * 170 * 170 * 170, () -> spread().likeliest());
    }

    /** Each state leads to all states. */
    private static DecisionChain spread() {
        StringBuilder text = new StringBuilder("chain states 6 horizon 5 seed 0");
        for (int k = 0; k < 6; k++) {
            text.append(";act " + k + " 0 to 5 16 to 4 16 to 3 17 to 2 17 to 1 17 to 0 17");
        }
        return loaded(text.toString());
    }

    private static void likeliestAt() {
        promise(35);
        says("Returns a state of the row with the greatest probability;");
        row("likeliestAt", mid(), DecisionChain::likeliestAt, 0, 1, 1, 1);
        row("the greatest chain", big(), DecisionChain::likeliestAt, 0, 1, 2, 3, 4, 5);
        row("of all rows of six states", spread(), DecisionChain::likeliestAt, 0, 0, 0, 0, 0, 0);
        says("of several that with the smallest state at the time 0, then at the time 1, and so on.");
        row("all are equal", loaded(EVEN), DecisionChain::likeliestAt, 1, 0, 0, 0);
        row("a greater state at the time 2", loaded("chain states 3 horizon 2 seed 0;act 0 0 to 2 50 to 1 50;"
                + "act 1 0 to 2 100;act 2 0 to 1 100"), DecisionChain::likeliestAt, 0, 1, 2);
        // The step to state 2 is as likely as that to state 1, but behind it the run splits.
        row("the whole row counts", loaded("chain states 3 horizon 2 seed 0;act 0 0 to 1 50 to 2 50;"
                + "act 1 0 to 0 50 to 1 50;act 2 0 to 2 100"), DecisionChain::likeliestAt, 0, 2, 2);
        says("- `t`: 0 to H");
        row("H 1", tiny(), DecisionChain::likeliestAt, 0, 0, NO_ARGUMENT);
        row("H 5", big(), DecisionChain::likeliestAt, 0, 1, 2, 3, 4, 5, NO_ARGUMENT);
        says("Returns the number of the state.");
        due("the first one", 0, () -> big().likeliestAt(0));
        due("the last one", 5, () -> big().likeliestAt(5));
        says("Throws `IllegalArgumentException` if t is out of range");
        timeOutOfRange(0, DecisionChain::likeliestAt);
    }
}
