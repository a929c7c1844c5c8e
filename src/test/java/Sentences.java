import java.util.HashSet;
import java.util.List;
import java.util.Map;
import java.util.Set;

/** What the tests of sentences share: each names the sentence of the document that it tests. */
abstract class Sentences {
    /** A call, and one with an argument or two of which the edges are tested. */
    interface Asked {
        Object of(DecisionChain x);
    }

    interface AskedOne {
        Object of(DecisionChain x, int k);
    }

    interface AskedTwo {
        Object of(DecisionChain x, int state, int action);
    }

    interface Maker {
        DecisionChain make();
    }

    static final int NONE = DecisionChain.NONE;
    static final long NOTHING = DecisionChain.NOTHING;
    static final int LEAST = Integer.MIN_VALUE;
    static final int MOST = Integer.MAX_VALUE;
    static final String NO_STATE = "throws.IllegalStateException";
    static final String NO_INDEX = "throws.IndexOutOfBoundsException";
    static final String NO_ARGUMENT = "throws.IllegalArgumentException";

    static final String TINY = "chain states 1 horizon 1 seed 0;act 0 0 to 0 100";
    /** State 1 keeps the run; flows at 1: 400, 300, 300; at 2: 220, 420, 360 thousand; at 3: 160, 486, 354 million. */
    static final String MID = "chain states 3 horizon 3 seed 7;budget 10;budget 4;"
            + "act 0 5 uses 0 3 to 1 50 to 2 50;act 0 - 2 uses 1 1 to 0 100;act 1 1 to 1 100;"
            + "act 2 0 uses 0 1 uses 1 2 to 0 20 to 2 80;rule 0 6 4";

    private static final Map<String, List<String>> DOCUMENT = Document.sentences();
    /** What tells nothing that a call could answer. */
    private static final Set<String> WITHOUT_ANSWER = Set.of(
            "What it is: A chain of decisions under budgets: in each state an action is drawn by the weights of a rule,"
                    + " the action brings a gain, uses budgets, and leads to other states by percents.",
            "What it is: what later calls answer is free.",
            "Description: The class parses a chain, computes the flows of visits exactly, compares what is used on the"
                    + " mean with the budgets, finds best rules, tells how they depend on the budgets, and draws"
                    + " paths.",
            "Section 5: The grammar, with literals in quotes:",
            "Section 6: The constants:",
            "Section 6: The constructor and the methods follow, a promise each: the signature, then what it does.");
    private static final Set<String> NAMED = new HashSet<>();
    private static String place = "";
    private static String sentence = "";
    private static int checks = 1;

    // ---- naming sentences

    static void promise(int number) {
        place("Promise " + number);
    }

    static void section(int number) {
        place("Section " + number);
    }

    static void place(String heading) {
        endSentence();
        place = heading;
    }

    /** Begins the test of a sentence, which ends where the next one begins. */
    static void says(String told) {
        endSentence();
        sentence = place + ": " + told;
        NAMED.add(sentence);
        boolean there = DOCUMENT.getOrDefault(place, List.of()).contains(told);
        Check.due("the document says " + sentence, true, () -> there);
        checks = 0;
    }

    private static void endSentence() {
        boolean tested = checks > 0;
        Check.due("a test of " + sentence, true, () -> tested);
        checks = 1;
    }

    /** Each sentence of the document has been named by a test. */
    static void finish() {
        endSentence();
        DOCUMENT.forEach((heading, all) -> {
            for (String told : all) {
                String name = heading + ": " + told;
                Check.due("a test of " + name, true, () -> heading.equals("Not promised") || NAMED.contains(name)
                        || WITHOUT_ANSWER.contains(name));
            }
        });
        Check.finish();
    }

    // ---- comparing answers

    static void due(String what, Object want, Check.Call call) {
        checks++;
        Check.due(sentence + " -- " + what, want, call);
    }

    /** The answers for the arguments from 0 on. */
    static void row(String what, DecisionChain x, AskedOne call, Object... want) {
        for (int k = 0; k < want.length; k++) {
            int at = k;
            due(what + " of " + at, want[at], () -> call.of(x, at));
        }
    }

    /** The call throws, and behind it the object answers all as a twin to which the call was not made. */
    static void refused(String thrown, Maker maker, String what, Asked call) {
        DecisionChain x = maker.make();
        due(what, thrown, () -> call.of(x));
        due(what + " changes nothing", Whole.of(maker.make()), () -> Whole.of(x));
    }

    /** Both numbers, and those far beyond them, are refused. */
    static void beyond(String thrown, Maker maker, AskedOne call, int below, int above) {
        for (int k : new int[] {below, above, LEAST, MOST}) {
            refused(thrown, maker, "the argument " + k, x -> call.of(x, k));
        }
    }

    static void noSuchState(AskedOne call) {
        beyond(NO_INDEX, Sentences::tiny, call, -1, 1);
        beyond(NO_INDEX, Sentences::busy, call, -1, 3);
        beyond(NO_INDEX, Sentences::big, call, -1, 6);
    }

    static void noSuchAction(AskedTwo call) {
        beyond(NO_INDEX, Sentences::tiny, (x, k) -> call.of(x, 0, k), -1, 1);
        beyond(NO_INDEX, Sentences::busy, (x, k) -> call.of(x, 0, k), -1, 2);
        beyond(NO_INDEX, Sentences::busy, (x, k) -> call.of(x, 2, k), -1, 1);
        beyond(NO_INDEX, Sentences::big, (x, k) -> call.of(x, 5, k), -1, 3);
    }

    static void noSuchBudget(AskedOne call) {
        beyond(NO_INDEX, Sentences::tiny, call, -1, 0);
        beyond(NO_INDEX, Sentences::busy, call, -1, 2);
        beyond(NO_INDEX, Sentences::big, call, -1, 3);
    }

    /** The time may be from 0 to H minus a number. */
    static void timeOutOfRange(int less, AskedOne call) {
        beyond(NO_ARGUMENT, Sentences::tiny, call, -1, 2 - less);
        beyond(NO_ARGUMENT, Sentences::busy, call, -1, 4 - less);
        beyond(NO_ARGUMENT, Sentences::big, call, -1, 6 - less);
    }

    // ---- objects

    static DecisionChain loaded(String text) {
        return Check.loaded(text);
    }

    /** The smallest chain: one state, one action, one step, no budget. */
    static DecisionChain tiny() {
        return loaded(TINY);
    }

    static DecisionChain mid() {
        return loaded(MID);
    }

    /** An object in which nothing is as in a new one: changes, a walk, slots, a report, an error, and bytes. */
    static DecisionChain busy() {
        DecisionChain x = changed();
        Check.answerOf(() -> Check.load(x, "chain states 9"));
        Check.append(x, "chain states 3 x");
        return x;
    }

    /** An object with changes, a walk, slots and a report, of which the buffer is empty. */
    static DecisionChain changed() {
        DecisionChain x = mid();
        x.save(1);
        x.setRule(0, 1, 9, 0);
        x.walk();
        x.save(0);
        x.setLimit(1, 7);
        x.permit(0, 1, false);
        x.report(1);
        return x;
    }

    /**
     * The greatest chain. In state k the action 0 gains 10 k, uses k + 1 of budget 0 and leads to the state behind it;
     * the action 1 loses 10 k + 1, uses 10 + k of budget 1 and leads to the second state behind it; the action 2 gains
     * 10 k + 2, uses 20 + k of budget 2 and 99 of budget 0, and stays.
     */
    static DecisionChain big() {
        return loaded(bigText());
    }

    static String bigText() {
        StringBuilder text = new StringBuilder("chain states 6 horizon 5 seed 30010;budget 9999;budget 50;budget 0");
        for (int k = 0; k < 6; k++) {
            text.append(";act " + k + " " + 10 * k + " uses 0 " + (k + 1) + " to " + (k + 1) % 6 + " 100");
            text.append(";act " + k + " -" + (10 * k + 1) + " uses 1 " + (10 + k) + " to " + (k + 2) % 6 + " 100");
            text.append(";act " + k + " " + (10 * k + 2) + " uses 2 " + (20 + k) + " uses 0 99 to " + k + " 100");
        }
        return text.append(";rule 5 1 2 7").toString();
    }

    /** A step leads to the state behind with the least probability, 1 / 1000; action 1 of state 4 uses budget 0. */
    static DecisionChain rare() {
        StringBuilder text = new StringBuilder("chain states 6 horizon 5 seed 0;budget 0");
        for (int k = 0; k < 5; k++) {
            text.append(";act " + k + " 0 to 0 100");
            text.append(";act " + k + " 0" + (k == 4 ? " uses 0 1" : "") + " to " + (k + 1) + " 1 to 0 99");
            text.append(";rule " + k + " 9 1");
        }
        return loaded(text.append(";act 5 0 to 5 100").toString());
    }

    /** An action that gains so much, uses a number of the budget, and keeps the run for five steps. */
    static DecisionChain steady(String gain, int amount, int limit) {
        return loaded("chain states 1 horizon 5 seed 0;budget " + limit + ";act 0 " + gain + " uses 0 " + amount
                + " to 0 100");
    }

    /** One step with the weights 9 and 1 uses 9, 10 and 11 tenths of budgets of which the LIMIT is 1. */
    static DecisionChain tenths() {
        return loaded("chain states 1 horizon 1 seed 0;budget 1;budget 1;budget 1;"
                + "act 0 0 uses 0 1 uses 1 1 uses 2 1 to 0 100;act 0 0 uses 1 1 uses 2 2 to 0 100;rule 0 9 1");
    }

    /** A new object that has been told a wrong text, and a right one that is not loaded. */
    static DecisionChain told() {
        DecisionChain x = new DecisionChain();
        Check.answerOf(() -> Check.load(x, "chain states 6 horizon 5 seed 9;budget 7;act 0 5 to 0 99"));
        Check.append(x, TINY);
        return x;
    }
}
