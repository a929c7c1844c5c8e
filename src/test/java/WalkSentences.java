/** Section 4 and the promises 44 to 51: draws, walks and reports. */
final class WalkSentences extends Sentences {
    /** All that the text tells but the seed; the numbers of the states do not tell the order of the percents. */
    private static final String DRAWN = "chain states 3 horizon 1 seed SEED;act 0 1 to 2 1 to 0 98 to 1 1;"
            + "act 0 10 to 1 30 to 2 70;act 0 100 to 0 100;act 1 0 to 1 100;act 2 0 to 2 100;rule 0 3 0 7";

    private WalkSentences() {
    }

    static void run() {
        section(4);
        draws();
        actions();
        states();
        walks();
        seed();
        walked();
        walkedBy();
        walkGain();
        walkUsed();
        gainOfWalks();
        report();
        reportParts();
        reportByte();
    }

    // ---- draws of the test's own

    private static int drawn(int seed) {
        return (int) ((seed * 109L + 1021) % 30011);
    }

    private static int drawn(int seed, int times) {
        int all = seed;
        for (int k = 0; k < times; k++) {
            all = drawn(all);
        }
        return all;
    }

    /** A seed behind which the first draw ends with the digit and the second one with the two digits; -1 is any. */
    private static int seedFor(int tenth, int hundredth) {
        for (int seed = 0; seed < 30011; seed++) {
            if ((tenth < 0 || drawn(seed) % 10 == tenth) && (hundredth < 0 || drawn(seed, 2) % 100 == hundredth)) {
                return seed;
            }
        }
        throw new AssertionError("no seed has these draws");
    }

    private static DecisionChain seeded(String text, int seed) {
        return loaded(text.replaceFirst("seed \\w+", "seed " + seed));
    }

    /** The action and the next state of one step. */
    private static String step(DecisionChain x) {
        x.walk();
        return x.walkedBy(0) + " to " + x.walked(1);
    }

    private static DecisionChain walkedMid() {
        DecisionChain x = mid();
        x.walk();
        return x;
    }

    private static DecisionChain walkedTiny() {
        DecisionChain x = tiny();
        x.walk();
        return x;
    }

    private static DecisionChain walkedBig() {
        DecisionChain x = big();
        x.walk();
        return x;
    }

    // ---- section 4

    private static void draws() {
        says("A draw changes the seed to the remainder of (seed * 109 + 1021) by 30011;");
        int zero = 0;
        while (drawn(zero) != 0) {
            zero++;
        }
        int last = 0;
        while (drawn(last) != 30010) {
            last++;
        }
        for (int seed : new int[] {0, 1, 265, 266, 275, 276, 30009, 30010, zero, last}) {
            DecisionChain x = seeded(TINY, seed);
            x.walk();
            due("two draws from " + seed, drawn(seed, 2), x::seed);
        }
        DecisionChain long5 = big();
        long5.walk();
        due("ten draws from 30010", drawn(30010, 10), long5::seed);
        says("its result is the new seed.");
        for (int tenth = 0; tenth < 10; tenth++) {
            int seed = seedFor(tenth, -1);
            due("d " + tenth, tenth < 3 ? 0 : 2, () -> {
                DecisionChain x = seeded(DRAWN, seed);
                x.walk();
                return x.walkedBy(0);
            });
        }
    }

    private static void actions() {
        says("In a step of a walk, with d as the result of a draw modulo 10, the action is the first one for which the"
                + " sum of the weights of the actions up to it is greater than d;");
        int[][] rules = {{10, 0, 0}, {0, 10, 0}, {0, 0, 10}, {1, 9, 0}, {9, 0, 1}, {3, 3, 4}, {0, 1, 9}, {1, 8, 1}};
        for (int[] rule : rules) {
            for (int tenth = 0; tenth < 10; tenth++) {
                int due = tenth < rule[0] ? 0 : tenth < rule[0] + rule[1] ? 1 : 2;
                DecisionChain x = seeded(DRAWN, seedFor(tenth, -1));
                x.setRule(0, rule[0], rule[1], rule[2]);
                x.walk();
                due("d " + tenth + " of " + rule[0] + " " + rule[1] + " " + rule[2], due, () -> x.walkedBy(0));
            }
        }
    }

    private static void states() {
        says("then, with d as the result of another draw modulo 100, the next state is the first one, in the order in"
                + " which the action tells its states, for which the sum of the percents up to it is greater than d.");
        int[] edges = {0, 1, 2, 29, 30, 31, 97, 98, 99};
        int[] first = {2, 0, 0, 0, 0, 0, 0, 0, 1};
        int[] second = {1, 1, 1, 1, 2, 2, 2, 2, 2};
        for (int k = 0; k < edges.length; k++) {
            DecisionChain x = seeded(DRAWN, seedFor(0, edges[k]));
            due("d " + edges[k] + " of 1, 98, 1", "0 to " + first[k], () -> step(x));
            DecisionChain y = seeded(DRAWN, seedFor(0, edges[k]));
            y.setRule(0, 0, 10, 0);
            due("d " + edges[k] + " of 30, 70", "1 to " + second[k], () -> step(y));
            DecisionChain z = seeded(DRAWN, seedFor(9, edges[k]));
            due("d " + edges[k] + " of 100", "2 to 0", () -> step(z));
        }
        StringBuilder six = new StringBuilder("chain states 6 horizon 1 seed 0");
        for (int k = 0; k < 6; k++) {
            six.append(";act " + k + " 0 to 5 10 to 3 10 to 1 10 to 4 10 to 2 10 to 0 50");
        }
        int[] due = {5, 5, 3, 3, 1, 1, 4, 4, 2, 2, 0, 0};
        int[] at = {0, 9, 10, 19, 20, 29, 30, 39, 40, 49, 50, 99};
        for (int k = 0; k < at.length; k++) {
            DecisionChain x = seeded(six.toString(), seedFor(-1, at[k]));
            due("d " + at[k] + " of six", "0 to " + due[k], () -> step(x));
        }
    }

    private static void walks() {
        says("A walk has H steps and begins in the start state.");
        row("H 1", walkedTiny(), DecisionChain::walked, 0, 0, NO_ARGUMENT);
        row("H 5", walkedBig(), DecisionChain::walked, 0, 1, 2, 3, 4, 5, NO_ARGUMENT);
        DecisionChain x = loaded(bigText() + ";start 3");
        due("walk()", 4, () -> {
            x.setHorizon(1);
            return x.walk();
        });
        row("start 3", x, DecisionChain::walked, 3, 4, NO_ARGUMENT);
        // Draws: 1784 (action 0), 15411 (state 1), 204, 23257, 15110, 27417.
        row("walked", walkedMid(), DecisionChain::walked, 0, 1, 1, 1, NO_ARGUMENT);
    }

    // ---- promises

    private static void seed() {
        promise(44);
        says("Returns the seed.");
        due("the smallest", 0, () -> tiny().seed());
        due("the greatest", 30010, () -> big().seed());
        DecisionChain x = mid();
        due("told", 7, x::seed);
        x.walk();
        due("behind a walk", 27417, x::seed);
        x.undo();
        due("behind undo", 7, x::seed);
        x.gainOfWalks(200);
        due("behind gainOfWalks", 7, x::seed);
    }

    private static void walked() {
        promise(45);
        says("Returns a state of the latest walk.");
        row("walked", walkedMid(), DecisionChain::walked, 0, 1, 1, 1);
        DecisionChain x = walkedMid();
        x.setStart(1);
        x.setHorizon(1);
        due("the first walk stays", 0, () -> x.walked(0));
        x.walk();
        row("the second walk", x, DecisionChain::walked, 1, 1, NO_ARGUMENT);
        says("- `t`: the time, from 0 to the number of steps of the walk");
        DecisionChain shorter = walkedBig();
        shorter.setHorizon(1);
        row("five steps, H is 1 now", shorter, DecisionChain::walked, 0, 1, 2, 3, 4, 5, NO_ARGUMENT);
        DecisionChain longer = walkedTiny();
        longer.setHorizon(5);
        row("one step, H is 5 now", longer, DecisionChain::walked, 0, 0, NO_ARGUMENT);
        says("Returns the number of the state.");
        due("the first one", 0, () -> walkedBig().walked(0));
        due("the last one", 5, () -> walkedBig().walked(5));
        noWalk("Throws `IllegalStateException` if there is no chain or no walk", DecisionChain::walked);
        says("Throws `IllegalArgumentException` if t is out of range");
        beyond(NO_ARGUMENT, WalkSentences::walkedTiny, DecisionChain::walked, -1, 2);
        beyond(NO_ARGUMENT, Sentences::busy, DecisionChain::walked, -1, 4);
        beyond(NO_ARGUMENT, WalkSentences::walkedBig, DecisionChain::walked, -1, 6);
    }

    /** There is no walk at first, behind undo, load, or restore of what was saved without one. */
    private static void noWalk(String told, AskedOne call) {
        says(told);
        for (int k : new int[] {0, -1, 9, LEAST, MOST}) {
            refused(NO_STATE, DecisionChain::new, "no chain", x -> call.of(x, k));
            refused(NO_STATE, Sentences::told, "a wrong text", x -> call.of(x, k));
            refused(NO_STATE, Sentences::mid, "no walk", x -> call.of(x, k));
            refused(NO_STATE, () -> unwalked(0), "no walk behind undo", x -> call.of(x, k));
            refused(NO_STATE, () -> unwalked(1), "no walk behind restore", x -> call.of(x, k));
            refused(NO_STATE, () -> unwalked(2), "no walk behind load", x -> call.of(x, k));
        }
    }

    private static DecisionChain unwalked(int way) {
        DecisionChain x = mid();
        x.save(0);
        x.walk();
        if (way == 0) {
            x.undo();
        } else if (way == 1) {
            x.restore(0);
        } else {
            Check.load(x, MID);
        }
        return x;
    }

    private static void walkedBy() {
        promise(46);
        says("Returns an action of the latest walk.");
        DecisionChain x = seeded(DRAWN, seedFor(9, 0));
        x.walk();
        due("the action 2", 2, () -> x.walkedBy(0));
        row("walkedBy", walkedMid(), DecisionChain::walkedBy, 0, 0, 0);
        says("- `t`: the time, from 0 to the number of steps of the walk minus 1");
        DecisionChain shorter = walkedBig();
        shorter.setHorizon(1);
        row("five steps, H is 1 now", shorter, DecisionChain::walkedBy, 0, 0, 0, 0, 0, NO_ARGUMENT);
        DecisionChain longer = walkedTiny();
        longer.setHorizon(5);
        row("one step, H is 5 now", longer, DecisionChain::walkedBy, 0, NO_ARGUMENT);
        says("Returns the number of the action.");
        DecisionChain y = seeded(DRAWN, seedFor(0, 50));
        y.setHorizon(5);
        y.setRule(0, 0, 0, 10);
        y.walk();
        row("the last action", y, DecisionChain::walkedBy, 2, 2, 2, 2, 2, NO_ARGUMENT);
        noWalk("Throws `IllegalStateException` if there is no chain or no walk", DecisionChain::walkedBy);
        says("Throws `IllegalArgumentException` if t is out of range");
        beyond(NO_ARGUMENT, WalkSentences::walkedTiny, DecisionChain::walkedBy, -1, 1);
        beyond(NO_ARGUMENT, Sentences::busy, DecisionChain::walkedBy, -1, 3);
        beyond(NO_ARGUMENT, WalkSentences::walkedBig, DecisionChain::walkedBy, -1, 5);
    }

    private static void walkGain() {
        promise(47);
        says("Returns the sum of the gains of the actions of the latest walk.");
        due("5 and 1 and 1", 7, () -> walkedMid().walkGain());
        due("0 to 40", 100, () -> walkedBig().walkGain());
        DecisionChain x = walkedBig();
        x.setHorizon(1);
        due("H is 1 now", 100, x::walkGain);
        x.setStart(5);
        x.setRule(5, 0, 10, 0);
        x.walk();
        due("the latest one", -51, x::walkGain);
        says("Returns the sum.");
        due("the greatest", 4995, () -> {
            DecisionChain y = steady("999", 1, 0);
            y.walk();
            return y.walkGain();
        });
        due("the smallest", -4995, () -> {
            DecisionChain y = steady("-999", 1, 0);
            y.walk();
            return y.walkGain();
        });
        due("none", 0, () -> walkedTiny().walkGain());
        noWalk("Throws `IllegalStateException` if there is no chain or no walk", (y, k) -> y.walkGain());
    }

    private static void walkUsed() {
        promise(48);
        says("Returns the sum of what the actions of the latest walk use of a budget.");
        row("walkUsed", walkedMid(), DecisionChain::walkUsed, 3, 0);
        DecisionChain x = walkedBig();
        x.setHorizon(1);
        row("H is 1 now", x, DecisionChain::walkUsed, 15, 0, 0);
        says("- `budget`: number of the budget");
        x.setStart(5);
        x.setRule(5, 0, 0, 10);
        x.walk();
        row("the latest one", x, DecisionChain::walkUsed, 99, 0, 25, NO_INDEX);
        says("Returns the sum.");
        due("the greatest", 495, () -> {
            DecisionChain y = steady("0", 99, 0);
            y.walk();
            return y.walkUsed(0);
        });
        due("none", 0, () -> walkedBig().walkUsed(2));
        noWalk("Throws `IllegalStateException` if there is no chain or no walk", DecisionChain::walkUsed);
        says("Throws `IndexOutOfBoundsException` if there is no such budget");
        beyond(NO_INDEX, WalkSentences::walkedTiny, DecisionChain::walkUsed, -1, 0);
        beyond(NO_INDEX, Sentences::busy, DecisionChain::walkUsed, -1, 2);
        beyond(NO_INDEX, WalkSentences::walkedBig, DecisionChain::walkUsed, -1, 3);
    }

    private static void gainOfWalks() {
        promise(49);
        says("Returns the sum of the gains of the next n walks that would be drawn;");
        DecisionChain x = seeded(DRAWN, 29);
        x.setHorizon(4);
        DecisionChain twin = seeded(DRAWN, 29);
        twin.setHorizon(4);
        int sum = 0;
        for (int n = 1; n <= 200; n++) {
            twin.walk();
            sum += twin.walkGain();
            int due = sum;
            int walks = n;
            due("n " + n, due, () -> x.gainOfWalks(walks));
        }
        says("nothing changes.");
        DecisionChain asked = busy();
        asked.gainOfWalks(200);
        due("all is as in a twin", Whole.of(busy()), () -> Whole.of(asked));
        DecisionChain none = mid();
        none.gainOfWalks(1);
        due("there is no walk", NO_STATE, none::walkGain);
        due("nothing can be undone", 0, none::undoable);
        says("- `n`: 1 to 200");
        due("1", 100, () -> big().gainOfWalks(1));
        due("200", 200 * 4995, () -> steady("999", 1, 0).gainOfWalks(200));
        says("Returns the sum.");
        due("the smallest", -200 * 4995, () -> steady("-999", 1, 0).gainOfWalks(200));
        due("none", 0, () -> tiny().gainOfWalks(200));
        says("Throws `IllegalArgumentException` if n is out of range");
        beyond(NO_ARGUMENT, Sentences::tiny, DecisionChain::gainOfWalks, 0, 201);
        beyond(NO_ARGUMENT, Sentences::busy, DecisionChain::gainOfWalks, -1, 201);
        beyond(NO_ARGUMENT, Sentences::big, DecisionChain::gainOfWalks, 0, 202);
    }

    private static void report() {
        promise(50);
        says("Writes a report, which replaces the text that was written before.");
        DecisionChain x = mid();
        due("a longer one", "0:160000000,1:486000000,2:354000000", () -> Check.report(x, 3));
        due("a shorter one", "0:1", () -> Check.report(x, 0));
        due("the end of the longer one is gone", NO_INDEX, () -> x.reportByte(3));
        due("the longer one again", "0:160000000,1:486000000,2:354000000", () -> Check.report(x, 3));
        says("For each state in which the run can be at the time t, by numbers, it contains the number of the state, a"
                + " colon and the flow, without leading zeros;");
        due("three states", "0:400,1:300,2:300", () -> Check.report(mid(), 1));
        due("the last state alone", "5:1000000000000000", () -> Check.report(big(), 5));
        due("the first state alone", "0:1", () -> Check.report(big(), 0));
        due("flows of 999 and 1", "0:999,1:1", () -> Check.report(rare(), 1));
        due("flows of ten", "0:990,1:10", () -> Check.report(loaded("chain states 2 horizon 1 seed 0;"
                + "act 0 0 to 0 99 to 1 1;act 1 0 to 1 100"), 1));
        due("a flow of 1 at the time 5", "5:1", () -> {
            String all = Check.report(rare(), 5);
            return all.substring(all.lastIndexOf(',') + 1);
        });
    }

    private static void reportParts() {
        says("these parts are separated by commas.");
        due("one part", "0:1000", () -> Check.report(tiny(), 1));
        due("two parts", "0:999,1:1", () -> Check.report(rare(), 1));
        due("three parts", "0:999000,1:999,2:1", () -> Check.report(rare(), 2));
        due("six parts have five commas", 5L, () -> Check.report(rare(), 5).chars().filter(c -> c == ',').count());
        says("- `t`: 0 to H");
        row("H 1", tiny(), (x, t) -> Check.report(x, t), "0:1", "0:1000", NO_ARGUMENT);
        row("H 5", big(), (x, t) -> Check.report(x, t), "0:1", "1:1000", "2:1000000", "3:1000000000", "4:1000000000000",
                "5:1000000000000000", NO_ARGUMENT);
        says("Returns the number of bytes of the text.");
        due("the smallest", 3, () -> tiny().report(0));
        due("one state", 18, () -> big().report(5));
        due("three states", 17, () -> mid().report(1));
        due("the greatest", 6 * 17 + 5, () -> loaded(sixths()).report(5));
        due("its last byte", (int) '0', () -> {
            DecisionChain x = loaded(sixths());
            return x.reportByte(x.report(5) - 1);
        });
        says("Throws `IllegalArgumentException` if t is out of range");
        timeOutOfRange(0, DecisionChain::report);
    }

    private static String sixths() {
        StringBuilder text = new StringBuilder("chain states 6 horizon 5 seed 0");
        for (int k = 0; k < 6; k++) {
            text.append(";act " + k + " 0 to 0 10 to 1 10 to 2 20 to 3 20 to 4 20 to 5 20");
        }
        return text.toString();
    }

    private static void reportByte() {
        promise(51);
        says("Returns a byte of the text that report wrote last.");
        DecisionChain x = mid();
        x.report(1);
        due("the text", "0:400,1:300,2:300", () -> Check.reported(x, 17));
        due("report(4)", NO_ARGUMENT, () -> x.report(4));
        due("the text stays behind a refusal", "0:400,1:300,2:300", () -> Check.reported(x, 17));
        x.setStart(1);
        x.undo();
        x.save(0);
        x.restore(0);
        Check.load(x, TINY);
        due("the text stays until the next report", "0:400,1:300,2:300", () -> Check.reported(x, 17));
        x.report(0);
        due("the next one", "0:1", () -> Check.reported(x, 3));
        says("- `i`: index of the byte, from 0");
        due("the first one", (int) '0', () -> x.reportByte(0));
        due("the last one", (int) '1', () -> x.reportByte(2));
        due("the one behind it", NO_INDEX, () -> x.reportByte(3));
        says("Returns the byte.");
        due("a comma", 44, () -> busy().reportByte(5));
        due("a colon", 58, () -> busy().reportByte(1));
        due("a 9", 57, () -> busy().reportByte(2));
        says("Throws `IndexOutOfBoundsException` if there is no such byte (always, before the first report)");
        for (int i : new int[] {0, -1, LEAST, MOST}) {
            refused(NO_INDEX, DecisionChain::new, "no chain", y -> y.reportByte(i));
            refused(NO_INDEX, Sentences::big, "no report", y -> y.reportByte(i));
        }
        due("a report that was refused is none", NO_INDEX, () -> {
            DecisionChain y = tiny();
            Check.answerOf(() -> y.report(2));
            return y.reportByte(0);
        });
        beyond(NO_INDEX, Sentences::busy, DecisionChain::reportByte, -1, "0:900,1:50,2:50".length());
    }
}
