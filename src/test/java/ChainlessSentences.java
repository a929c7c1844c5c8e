/** What each promise says of an object without a chain; the promises 45 to 48 and 53 are tested with their walks. */
final class ChainlessSentences extends Sentences {
    private ChainlessSentences() {
    }

    static void run() {
        chain();
        flows();
        best();
        walksAndChanges();
    }

    /** The arguments 0 and those that another exception would apply to. */
    private static void noChain(int number, AskedOne call) {
        promise(number);
        says("Throws `IllegalStateException` if there is no chain");
        for (int k : new int[] {0, 1, 10, -1, 9999, LEAST, MOST}) {
            refused(NO_STATE, DecisionChain::new, "a new object, " + k, x -> call.of(x, k));
            refused(NO_STATE, Sentences::told, "behind a wrong text, " + k, x -> call.of(x, k));
        }
        // As soon as a text is loaded, the same call does not throw it.
        DecisionChain x = loaded(TINY + ";budget 1");
        due("with a chain", false, () -> Check.answerOf(() -> call.of(x, 0)).equals(NO_STATE));
    }

    private static void chain() {
        noChain(10, (x, k) -> x.start());
        noChain(11, DecisionChain::actions);
        noChain(12, (x, k) -> x.gain(k, k));
        noChain(13, (x, k) -> x.uses(k, k, k));
        noChain(14, (x, k) -> x.percent(k, k, k));
        noChain(15, (x, k) -> x.weight(k, k));
        noChain(16, (x, k) -> x.isPermitted(k, k));
        noChain(17, DecisionChain::limit);
        noChain(18, DecisionChain::reach);
        noChain(19, DecisionChain::isClosed);
    }

    private static void flows() {
        noChain(20, (x, k) -> x.flow(k, k));
        noChain(21, (x, k) -> x.use(k, k, k));
        noChain(22, DecisionChain::visits);
        noChain(23, DecisionChain::hit);
        noChain(24, (x, k) -> x.unit());
        noChain(25, (x, k) -> x.gainOfRun());
        noChain(26, DecisionChain::usedOfRun);
        noChain(27, DecisionChain::left);
        noChain(28, (x, k) -> x.broken());
        noChain(29, DecisionChain::within);
        noChain(30, DecisionChain::mostUsed);
        noChain(31, DecisionChain::firstTime);
        noChain(32, DecisionChain::busiest);
        noChain(33, (x, k) -> x.meanGain());
        noChain(34, (x, k) -> x.likeliest());
        noChain(35, DecisionChain::likeliestAt);
    }

    private static void best() {
        noChain(36, (x, k) -> x.value(k, k));
        noChain(37, (x, k) -> x.valueAction(k, k));
        noChain(38, (x, k) -> x.bestGain());
        noChain(39, DecisionChain::bestAction);
        noChain(40, (x, k) -> x.pureSets());
        noChain(41, (x, k) -> x.worth(k, k));
        noChain(42, DecisionChain::leastLimit);
        noChain(43, (x, k) -> x.bestWeight(k, k, k));
    }

    private static void walksAndChanges() {
        noChain(44, (x, k) -> x.seed());
        noChain(49, DecisionChain::gainOfWalks);
        noChain(50, DecisionChain::report);
        noChain(52, (x, k) -> x.setRule(k, k, k, k));
        noChain(54, (x, k) -> x.permit(k, k, false));
        noChain(55, (x, k) -> x.setLimit(k, k));
        noChain(56, DecisionChain::setStart);
        noChain(57, DecisionChain::setHorizon);
        noChain(58, (x, k) -> x.walk());
        noChain(61, DecisionChain::save);
    }
}
