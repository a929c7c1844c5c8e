/** Each promise by answers that were worked out by hand: ordinary inputs, edges and wrong inputs. */
public final class PromiseTest {
    private static final int NONE = DecisionChain.NONE;
    private static final long NOTHING = DecisionChain.NOTHING;
    private static final int[] WRONG_INDEXES = {-1, 9, Integer.MIN_VALUE, Integer.MAX_VALUE};

    /** State 1 keeps the run; flows at 1: 400, 300, 300; at 2: 220, 420, 360 thousand; at 3: 160, 486, 354 million. */
    private static final String TEXT = "chain states 3 horizon 3 seed 7;budget 10;budget 4;"
            + "act 0 5 uses 0 3 to 1 50 to 2 50;act 0 - 2 uses 1 1 to 0 100;act 1 1 to 1 100;"
            + "act 2 0 uses 0 1 uses 1 2 to 0 20 to 2 80;rule 0 6 4";
    /** Two states of which all rows have the same chance, and actions that gain the same. */
    private static final String EVEN = "chain states 2 horizon 2 seed 0;"
            + "act 0 3 to 1 50 to 0 50;act 0 3 to 1 50 to 0 50;act 1 3 to 0 50 to 1 50;act 1 3 to 0 50 to 1 50;start 1";

    public static void main(String[] args) {
        textPromises();
        chainPromises();
        flowPromises();
        spendingPromises();
        likeliestPromises();
        bestPromises();
        walkPromises();
        reportPromises();
        changePromises();
        keepingPromises();
        Check.finish();
    }

    private static DecisionChain fresh() {
        return Check.loaded(TEXT);
    }

    /** State 1 is reached with the weight 1 and the percent 1. */
    private static DecisionChain rare() {
        return Check.loaded("chain states 2 horizon 2 seed 0;budget 9;act 0 0 uses 0 1 to 0 100;"
                + "act 0 0 to 0 99 to 1 1;act 1 0 uses 0 10 to 1 100;rule 0 9 1");
    }

    private static void textPromises() {
        promise1();
        promise2();
        promise3();
        promises4And5();
        promise6();
    }

    private static void chainPromises() {
        promises7To9();
        promise10();
        promises11To14();
        promises15And16();
        promise17();
        promise18();
        promise19();
    }

    private static void flowPromises() {
        promise20();
        promise21();
        promise22();
        promise23();
        promises24And25();
        promises26To28();
        promise31();
        promise32();
        promise33();
    }

    private static void spendingPromises() {
        promise29();
        promise30();
    }

    private static void likeliestPromises() {
        promises34And35();
    }

    private static void bestPromises() {
        promises36And37();
        promises38To40();
        promise41();
        promise42();
        promise43();
    }

    private static void walkPromises() {
        promises44To48();
        promise49();
    }

    private static void reportPromises() {
        promises50And51();
    }

    private static void changePromises() {
        promise52();
        promise53();
        promise54();
        promise55();
        promise56();
        promise57();
        promise58();
    }

    private static void keepingPromises() {
        promises59And60();
        promises61And62();
    }

    private static void promise1() {
        DecisionChain x = new DecisionChain();
        Check.due("1: buffered()", 0, x::buffered);
        Check.due("1: states()", 0, x::states);
        Check.due("1: budgets()", 0, x::budgets);
        Check.due("1: horizon()", 0, x::horizon);
        Check.due("1: undoable()", 0, x::undoable);
        Check.due("1: parseError()", 0, x::parseError);
        Check.due("1: errorPosition()", NONE, x::errorPosition);
        Check.noIndex("1: reportByte(0)", () -> x.reportByte(0));
        Check.noIndex("1: restore(-1)", () -> x.restore(-1));
        Check.noIndex("1: restore(2)", () -> x.restore(2));
        Check.noState("1: restore(1)", () -> x.restore(1));
        withoutChain(x);
        withoutChainEither(x);
        Check.noArgument("1: load(0)", () -> x.load(0));
        withoutChain(x);
    }

    /** Where several exceptions apply, IllegalStateException is the first. */
    private static void withoutChain(DecisionChain x) {
        Check.noState("start", x::start);
        Check.noState("actions", () -> x.actions(-1));
        Check.noState("gain", () -> x.gain(-1, -1));
        Check.noState("uses", () -> x.uses(-1, -1, -1));
        Check.noState("percent", () -> x.percent(-1, -1, -1));
        Check.noState("weight", () -> x.weight(-1, -1));
        Check.noState("isPermitted", () -> x.isPermitted(-1, -1));
        Check.noState("limit", () -> x.limit(-1));
        Check.noState("reach", () -> x.reach(-1));
        Check.noState("isClosed", () -> x.isClosed(0));
        Check.noState("flow", () -> x.flow(-1, -1));
        Check.noState("use", () -> x.use(-1, -1, -1));
        Check.noState("visits", () -> x.visits(-1));
        Check.noState("hit", () -> x.hit(-1));
        Check.noState("unit", x::unit);
        Check.noState("gainOfRun", x::gainOfRun);
        Check.noState("usedOfRun", () -> x.usedOfRun(-1));
        Check.noState("left", () -> x.left(-1));
        Check.noState("broken", x::broken);
        Check.noState("within", () -> x.within(-1));
        Check.noState("mostUsed", () -> x.mostUsed(-1));
        Check.noState("firstTime", () -> x.firstTime(-1));
        Check.noState("busiest", () -> x.busiest(-1));
        Check.noState("meanGain", x::meanGain);
        Check.noState("likeliest", x::likeliest);
        Check.noState("likeliestAt", () -> x.likeliestAt(-1));
    }

    private static void withoutChainEither(DecisionChain x) {
        Check.noState("value", () -> x.value(-1, -1));
        Check.noState("valueAction", () -> x.valueAction(-1, -1));
        Check.noState("bestGain", x::bestGain);
        Check.noState("bestAction", () -> x.bestAction(-1));
        Check.noState("pureSets", x::pureSets);
        Check.noState("worth", () -> x.worth(-1, -1));
        Check.noState("leastLimit", () -> x.leastLimit(-1));
        Check.noState("bestWeight", () -> x.bestWeight(-1, 0, 0));
        Check.noState("seed", x::seed);
        Check.noState("walked", () -> x.walked(-1));
        Check.noState("walkedBy", () -> x.walkedBy(-1));
        Check.noState("walkGain", x::walkGain);
        Check.noState("walkUsed", () -> x.walkUsed(-1));
        Check.noState("gainOfWalks", () -> x.gainOfWalks(0));
        Check.noState("report", () -> x.report(-1));
        Check.noState("setRule", () -> x.setRule(-1, 11, 0, 0));
        Check.noState("takeBest", x::takeBest);
        Check.noState("permit", () -> x.permit(-1, -1, false));
        Check.noState("setLimit", () -> x.setLimit(-1, -1));
        Check.noState("setStart", () -> x.setStart(-1));
        Check.noState("setHorizon", () -> x.setHorizon(0));
        Check.noState("walk", x::walk);
        Check.noState("undo", x::undo);
        Check.noState("save", () -> x.save(-1));
    }

    private static void promise2() {
        DecisionChain x = new DecisionChain();
        for (int k = 1; k <= 60; k++) {
            int due = 20 * k;
            Check.due("2: append", due, () -> x.append(-1, 0, 1, Integer.MIN_VALUE, 5));
        }
        Check.due("2: append to 1200 bytes", NONE, () -> x.append(0, 0, 0, 0, 0));
        Check.due("2: nothing is appended", 1200, x::buffered);
        DecisionChain y = new DecisionChain();
        // "chai" "n st" "ates" " 1 h" "oriz" is the order of the bytes.
        y.append(0x63686169, 0x6e207374, 0x61746573, 0x20312068, 0x6f72697a);
        Check.noArgument("2: load(20)", () -> y.load(20));
        Check.due("2: the fourth word is cut", 15, y::errorPosition);
        StringBuilder full = new StringBuilder(TEXT);
        while (full.length() < 1200) {
            full.append(' ');
        }
        Check.due("2: a text of 1200 bytes", 4, () -> Check.load(new DecisionChain(), full.toString()));
    }

    private static void promise3() {
        DecisionChain x = fresh();
        x.setStart(1);
        x.walk();
        x.save(0);
        Check.append(x, "chain states 1");
        Check.noIndex("3: load(-1)", () -> x.load(-1));
        Check.noIndex("3: load(21)", () -> x.load(21));
        Check.noIndex("3: load of many", () -> x.load(Integer.MAX_VALUE));
        Check.due("3: the buffer stays", 20, x::buffered);
        Check.due("3: parseError() stays", 0, x::parseError);
        Check.noArgument("3: load(14)", () -> x.load(14));
        Check.due("3: the buffer is empty", 0, x::buffered);
        Check.due("3: the chain stays", 3, x::states);
        Check.due("3: the start state stays", 1, x::start);
        Check.due("3: the walk stays", 1, () -> x.walked(0));
        Check.due("3: the changes stay", 2, x::undoable);
        Check.due("3: the slot stays", x.seed(), () -> x.restore(0));
        x.setHorizon(1);
        x.permit(0, 0, false);
        Check.due("3: load", 4, () -> Check.load(x, EVEN));
        Check.due("3: the chain is new", 2, x::states);
        Check.due("3: no budgets are left", 0, x::budgets);
        Check.due("3: the horizon is new", 2, x::horizon);
        Check.due("3: all is permitted", true, () -> x.isPermitted(0, 0));
        Check.noState("3: no walk", () -> x.walked(0));
        Check.due("3: nothing can be undone", 0, x::undoable);
        Check.noState("3: nothing is saved", () -> x.restore(0));
        Check.due("3: no amounts are left", 4, x::pureSets);
        Check.due("3: best gain of the new chain", 60000L, x::bestGain);
        Check.load(x, "chain states 2 horizon 2 seed 0;act 0 4 to 0 100;act 1 5 to 1 100;start 1");
        Check.due("3: best gain of a chain of the same start and horizon", 100000L, x::bestGain);
    }

    private static void promises4And5() {
        DecisionChain x = new DecisionChain();
        String[] texts = {"chain x", "chain states 7", "chain states 1 horizon 1 seed 0;act 0 1 to 0 1 to 0 1",
            "chain states 1 horizon 1 seed 0;budget 1;budget 1;budget 1;budget 1",
            "chain states 1 horizon 1 seed 0;act 0 1 to 0 1;", "chain states 1 horizon 1 seed 0"};
        int[] positions = {6, 13, 50, 59, 46, 31};
        for (int k = 0; k < texts.length; k++) {
            int which = k;
            Check.noArgument("4: load", () -> Check.load(x, texts[which]));
            Check.due("4: " + texts[k], which + 1, x::parseError);
            Check.due("5: " + texts[k], positions[which], x::errorPosition);
            Check.noIndex("4: load(1)", () -> x.load(1));
            Check.due("4: " + texts[k] + " stays", which + 1, x::parseError);
            Check.due("5: " + texts[k] + " stays", positions[which], x::errorPosition);
        }
        Check.load(x, TEXT);
        Check.due("4: parseError()", 0, x::parseError);
        Check.due("5: errorPosition()", NONE, x::errorPosition);
    }

    private static void promise6() {
        DecisionChain x = new DecisionChain();
        x.append(1, 2, 3, 4, 5);
        x.append(1, 2, 3, 4, 5);
        Check.due("6: buffered()", 40, x::buffered);
        Check.noArgument("6: load(3)", () -> x.load(3));
        Check.due("6: buffered()", 0, x::buffered);
        Check.append(x, TEXT);
        Check.due("6: load", 4, () -> x.load(TEXT.length()));
        Check.due("6: buffered()", 0, x::buffered);
    }

    private static void promises7To9() {
        DecisionChain x = fresh();
        Check.due("7: states()", 3, x::states);
        Check.due("8: budgets()", 2, x::budgets);
        Check.due("9: horizon()", 3, x::horizon);
        x.setHorizon(5);
        Check.due("9: horizon()", 5, x::horizon);
    }

    private static void promise10() {
        DecisionChain x = Check.loaded(TEXT + ";start 2");
        Check.due("10: start()", 2, x::start);
        Check.due("10: start()", 0, fresh()::start);
        Check.load(x, TEXT);
        Check.due("10: a start line of the text before", 0, x::start);
    }

    private static void promises11To14() {
        DecisionChain x = fresh();
        Check.due("11: actions(0)", 2, () -> x.actions(0));
        Check.due("11: actions(2)", 1, () -> x.actions(2));
        Check.due("12: gain(0, 0)", 5, () -> x.gain(0, 0));
        Check.due("12: gain(0, 1)", -2, () -> x.gain(0, 1));
        Check.due("13: uses(2, 0, 1)", 2, () -> x.uses(2, 0, 1));
        Check.due("13: uses(0, 1, 0)", 0, () -> x.uses(0, 1, 0));
        Check.due("14: percent(2, 0, 2)", 80, () -> x.percent(2, 0, 2));
        Check.due("14: percent(2, 0, 1)", 0, () -> x.percent(2, 0, 1));
        Check.noIndex("11: actions(3)", () -> x.actions(3));
        Check.noIndex("12: gain(3, 0)", () -> x.gain(3, 0));
        Check.noIndex("12: gain(1, 1)", () -> x.gain(1, 1));
        Check.noIndex("13: uses(3, 0, 0)", () -> x.uses(3, 0, 0));
        Check.noIndex("13: uses(1, 1, 0)", () -> x.uses(1, 1, 0));
        Check.noIndex("13: uses(0, 0, 2)", () -> x.uses(0, 0, 2));
        Check.noIndex("14: percent(3, 0, 0)", () -> x.percent(3, 0, 0));
        Check.noIndex("14: percent(2, 1, 0)", () -> x.percent(2, 1, 0));
        Check.noIndex("14: percent(2, 0, 3)", () -> x.percent(2, 0, 3));
        for (int k : WRONG_INDEXES) {
            Check.noIndex("11: actions", () -> x.actions(k));
            Check.noIndex("12: gain", () -> x.gain(k, 0));
            Check.noIndex("12: gain", () -> x.gain(0, k));
            Check.noIndex("13: uses", () -> x.uses(k, 0, 0));
            Check.noIndex("13: uses", () -> x.uses(0, k, 0));
            Check.noIndex("13: uses", () -> x.uses(0, 0, k));
            Check.noIndex("14: percent", () -> x.percent(k, 0, 0));
            Check.noIndex("14: percent", () -> x.percent(0, k, 0));
            Check.noIndex("14: percent", () -> x.percent(0, 0, k));
        }
    }

    private static void promises15And16() {
        DecisionChain x = fresh();
        Check.due("15: weight(0, 0)", 6, () -> x.weight(0, 0));
        Check.due("15: weight(0, 1)", 4, () -> x.weight(0, 1));
        Check.due("15: weight(2, 0) without a rule line", 10, () -> x.weight(2, 0));
        Check.due("16: isPermitted(0, 1)", true, () -> x.isPermitted(0, 1));
        x.permit(0, 1, false);
        Check.due("16: isPermitted(0, 1)", false, () -> x.isPermitted(0, 1));
        Check.due("16: isPermitted(0, 0)", true, () -> x.isPermitted(0, 0));
        Check.noIndex("15: weight(1, 1)", () -> x.weight(1, 1));
        Check.noIndex("16: isPermitted(1, 1)", () -> x.isPermitted(1, 1));
        for (int k : WRONG_INDEXES) {
            Check.noIndex("15: weight", () -> x.weight(k, 0));
            Check.noIndex("15: weight", () -> x.weight(0, k));
            Check.noIndex("16: isPermitted", () -> x.isPermitted(k, 0));
            Check.noIndex("16: isPermitted", () -> x.isPermitted(0, k));
        }
    }

    private static void promise17() {
        DecisionChain x = fresh();
        Check.due("17: limit(0)", 10, () -> x.limit(0));
        Check.due("17: limit(1)", 4, () -> x.limit(1));
        Check.noIndex("17: limit(2)", () -> x.limit(2));
        Check.noIndex("17: limit(-1)", () -> x.limit(-1));
    }

    private static void promise18() {
        DecisionChain x = fresh();
        Check.due("18: reach(0)", 1, () -> x.reach(0));
        Check.due("18: reach(1)", 7, () -> x.reach(1));
        Check.due("18: reach(3)", 7, () -> x.reach(3));
        Check.noArgument("18: reach(4)", () -> x.reach(4));
        Check.noArgument("18: reach(-1)", () -> x.reach(-1));
        x.setStart(1);
        Check.due("18: reach(3)", 2, () -> x.reach(3));
        x.setStart(0);
        x.setRule(0, 0, 10, 0);
        Check.due("18: an action of the weight 0", 1, () -> x.reach(1));
    }

    private static void promise19() {
        DecisionChain x = fresh();
        int[] closed = {0, 0, 1, 0, 0, 0, 0, 1};
        for (int set = 1; set < 8; set++) {
            int which = set;
            Check.due("19: isClosed", closed[set] == 1, () -> x.isClosed(which));
        }
        for (int set : new int[] {0, 8, -1, Integer.MIN_VALUE, Integer.MAX_VALUE}) {
            Check.noArgument("19: isClosed", () -> x.isClosed(set));
        }
        x.setRule(0, 0, 10, 0);
        Check.due("19: isClosed(1)", true, () -> x.isClosed(1));
        Check.due("19: isClosed(5)", true, () -> x.isClosed(5));
        Check.due("19: the least weight and percent", false, () -> rare().isClosed(1));
    }

    private static void promise20() {
        DecisionChain x = fresh();
        long[][] due = {{1, 0, 0}, {400, 300, 300}, {220000, 420000, 360000}, {160000000, 486000000, 354000000}};
        for (int t = 0; t < due.length; t++) {
            for (int state = 0; state < 3; state++) {
                int s = state;
                int time = t;
                Check.due("20: flow", due[t][state], () -> x.flow(s, time));
            }
        }
        Check.noArgument("20: flow(0, 4)", () -> x.flow(0, 4));
        Check.noArgument("20: flow(0, -1)", () -> x.flow(0, -1));
        Check.noIndex("20: flow(3, 4)", () -> x.flow(3, 4));
        Check.noIndex("20: flow(-1, 0)", () -> x.flow(-1, 0));
        x.setHorizon(5);
        x.setStart(1);
        Check.due("20: flow(1, 5)", 1000000000000000L, () -> x.flow(1, 5));
    }

    private static void promise21() {
        DecisionChain x = fresh();
        Check.due("21: use(0, 0, 0)", 6L, () -> x.use(0, 0, 0));
        Check.due("21: use(0, 1, 2)", 880000L, () -> x.use(0, 1, 2));
        Check.due("21: use(2, 0, 1)", 3000L, () -> x.use(2, 0, 1));
        Check.noArgument("21: use(0, 0, 3)", () -> x.use(0, 0, 3));
        Check.noArgument("21: use(0, 0, -1)", () -> x.use(0, 0, -1));
        Check.noIndex("21: use(0, 2, 3)", () -> x.use(0, 2, 3));
        Check.noIndex("21: use(3, 0, 3)", () -> x.use(3, 0, 3));
    }

    private static void promise22() {
        DecisionChain x = fresh();
        Check.due("22: visits(0)", 1780000000L, () -> x.visits(0));
        Check.due("22: visits(1)", 1206000000L, () -> x.visits(1));
        Check.due("22: visits(2)", 1014000000L, () -> x.visits(2));
        Check.noIndex("22: visits(3)", () -> x.visits(3));
        Check.noIndex("22: visits(-1)", () -> x.visits(-1));
    }

    private static void promise23() {
        DecisionChain x = fresh();
        Check.due("23: hit(0)", 1000000000L, () -> x.hit(0));
        Check.due("23: hit(1)", 486000000L, () -> x.hit(1));
        Check.due("23: hit(2)", 468000000L, () -> x.hit(2));
        Check.noIndex("23: hit(3)", () -> x.hit(3));
        Check.noIndex("23: hit(-1)", () -> x.hit(-1));
        x.setStart(1);
        Check.due("23: hit(0)", 0L, () -> x.hit(0));
    }

    private static void promises24And25() {
        DecisionChain x = fresh();
        Check.due("24: unit()", 10000000L, x::unit);
        Check.due("25: gainOfRun()", 42840000L, x::gainOfRun);
        x.setRule(0, 0, 10, 0);
        Check.due("25: a gain below 0", -60000000L, x::gainOfRun);
        x.setHorizon(5);
        Check.due("24: unit()", 10000000000000L, x::unit);
        x.setHorizon(1);
        Check.due("24: unit()", 10L, x::unit);
        Check.due("25: gainOfRun()", -20L, x::gainOfRun);
    }

    private static void promises26To28() {
        DecisionChain x = fresh();
        Check.due("26: usedOfRun(0)", 35760000L, () -> x.usedOfRun(0));
        Check.due("26: usedOfRun(1)", 19680000L, () -> x.usedOfRun(1));
        Check.due("27: left(0)", 64240000L, () -> x.left(0));
        Check.due("27: left(1)", 20320000L, () -> x.left(1));
        Check.due("28: broken()", 0, x::broken);
        x.setLimit(1, 1);
        Check.due("27: left(1)", -9680000L, () -> x.left(1));
        Check.due("28: broken()", 2, x::broken);
        x.setLimit(0, 3);
        Check.due("28: broken()", 3, x::broken);
        x.setRule(0, 0, 10, 0);
        x.setLimit(1, 3);
        Check.due("27: nothing is left", 0L, () -> x.left(1));
        Check.due("28: a budget holds that is used up", 0, x::broken);
        Check.noIndex("26: usedOfRun(2)", () -> x.usedOfRun(2));
        Check.noIndex("26: usedOfRun(-1)", () -> x.usedOfRun(-1));
        Check.noIndex("27: left(2)", () -> x.left(2));
        Check.noIndex("27: left(-1)", () -> x.left(-1));
        Check.due("28: without budgets", 0, Check.loaded(EVEN)::broken);
    }

    private static void promise29() {
        DecisionChain x = fresh();
        Check.due("29: within(1)", 1000000000L, () -> x.within(1));
        x.setLimit(1, 1);
        Check.due("29: within(1)", 420000000L, () -> x.within(1));
        x.setLimit(1, 9999);
        Check.due("29: within(1)", 1000000000L, () -> x.within(1));
        x.setLimit(0, 0);
        Check.due("29: within(0)", 64000000L, () -> x.within(0));
        Check.noIndex("29: within(2)", () -> x.within(2));
        Check.noIndex("29: within(-1)", () -> x.within(-1));
        DecisionChain most = Check.loaded("chain states 1 horizon 5 seed 0;budget 494;act 0 0 uses 0 99 to 0 100");
        Check.due("29: 495 of 494", 0L, () -> most.within(0));
        most.setLimit(0, 495);
        Check.due("29: 495 of 495", 1000000000000000L, () -> most.within(0));
    }

    private static void promise30() {
        DecisionChain x = fresh();
        Check.due("30: mostUsed(0)", 7, () -> x.mostUsed(0));
        Check.due("30: mostUsed(1)", 4, () -> x.mostUsed(1));
        x.setRule(0, 0, 10, 0);
        Check.due("30: an action of the weight 0", 0, () -> x.mostUsed(0));
        Check.due("30: mostUsed(1)", 3, () -> x.mostUsed(1));
        Check.due("30: the least weight and percent", 10, () -> rare().mostUsed(0));
        Check.noIndex("30: mostUsed(2)", () -> x.mostUsed(2));
        Check.noIndex("30: mostUsed(-1)", () -> x.mostUsed(-1));
    }

    private static void promise31() {
        DecisionChain x = Check.loaded("chain states 4 horizon 2 seed 0;act 0 0 to 1 100;act 1 0 to 2 100;"
                + "act 2 0 to 3 100;act 3 0 to 3 100");
        int[] due = {0, 1, 2, NONE};
        for (int state = 0; state < 4; state++) {
            int s = state;
            Check.due("31: firstTime", due[state], () -> x.firstTime(s));
        }
        Check.noIndex("31: firstTime(4)", () -> x.firstTime(4));
        Check.noIndex("31: firstTime(-1)", () -> x.firstTime(-1));
    }

    private static void promise32() {
        DecisionChain x = fresh();
        Check.due("32: busiest(0)", 0, () -> x.busiest(0));
        Check.due("32: busiest(1)", 1, () -> x.busiest(1));
        Check.due("32: busiest(2)", 2, () -> x.busiest(2));
        x.setStart(1);
        Check.due("32: busiest(0)", 1, () -> x.busiest(0));
        Check.due("32: of equal ones the smaller", 0, () -> x.busiest(1));
        Check.due("32: of equal ones the smaller", 2, () -> x.busiest(2));
        Check.noIndex("32: busiest(3)", () -> x.busiest(3));
        Check.noIndex("32: busiest(-1)", () -> x.busiest(-1));
    }

    private static void promise33() {
        DecisionChain x = fresh();
        Check.due("33: meanGain()", 42840000f / 10000000f, x::meanGain);
        x.setRule(0, 0, 10, 0);
        Check.due("33: meanGain()", -6f, x::meanGain);
    }

    private static void promises34And35() {
        DecisionChain x = fresh();
        Check.due("34: likeliest()", 300000000L, x::likeliest);
        int[] row = {0, 1, 1, 1};
        for (int t = 0; t < 4; t++) {
            int time = t;
            Check.due("35: likeliestAt", row[t], () -> x.likeliestAt(time));
        }
        Check.noArgument("35: likeliestAt(4)", () -> x.likeliestAt(4));
        Check.noArgument("35: likeliestAt(-1)", () -> x.likeliestAt(-1));
        DecisionChain y = Check.loaded(EVEN);
        Check.due("34: likeliest()", 250000L, y::likeliest);
        Check.due("35: likeliestAt(0)", 1, () -> y.likeliestAt(0));
        Check.due("35: of several the smallest", 0, () -> y.likeliestAt(1));
        Check.due("35: of several the smallest", 0, () -> y.likeliestAt(2));
        // Both actions lead to state 1 with 40, more than the 30 of each to a state of its own.
        DecisionChain z = Check.loaded("chain states 3 horizon 1 seed 0;act 0 0 to 0 60 to 1 40;"
                + "act 0 0 to 2 60 to 1 40;act 1 0 to 1 100;act 2 0 to 2 100;rule 0 5 5");
        Check.due("34: a row, not an action's", 400L, z::likeliest);
        Check.due("35: a row, not an action's", 1, () -> z.likeliestAt(1));
    }

    private static void promises36And37() {
        DecisionChain x = fresh();
        long[][] due = {{0, 0, 0}, {5, 1, 0}, {550, 200, 100}, {65000, 30000, 19000}};
        for (int n = 0; n < due.length; n++) {
            for (int state = 0; state < 3; state++) {
                int s = state;
                int steps = n;
                Check.due("36: value", due[n][state], () -> x.value(s, steps));
            }
        }
        Check.due("36: more steps than H", 500000000L, () -> x.value(1, 5));
        Check.due("37: valueAction(0, 2)", 0, () -> x.valueAction(0, 2));
        x.permit(0, 0, false);
        Check.due("36: value(0, 1)", -2L, () -> x.value(0, 1));
        Check.due("36: value(0, 2)", -400L, () -> x.value(0, 2));
        Check.due("37: valueAction(0, 2)", 1, () -> x.valueAction(0, 2));
        Check.noArgument("36: value(0, -1)", () -> x.value(0, -1));
        Check.noArgument("36: value(0, 6)", () -> x.value(0, 6));
        Check.noIndex("36: value(3, 6)", () -> x.value(3, 6));
        Check.noArgument("37: valueAction(0, 0)", () -> x.valueAction(0, 0));
        Check.noArgument("37: valueAction(0, 6)", () -> x.valueAction(0, 6));
        Check.noIndex("37: valueAction(-1, 0)", () -> x.valueAction(-1, 0));
        DecisionChain y = Check.loaded(EVEN);
        Check.due("37: of several the smallest", 0, () -> y.valueAction(0, 5));
        // The action that gains less now leads to where much is gained.
        DecisionChain z = Check.loaded("chain states 2 horizon 1 seed 0;act 0 1 to 0 100;act 0 0 to 1 100;"
                + "act 1 9 to 1 100");
        Check.due("37: one step", 0, () -> z.valueAction(0, 1));
        Check.due("37: two steps", 1, () -> z.valueAction(0, 2));
        Check.due("36: two steps", 900L, () -> z.value(0, 2));
    }

    private static void promises38To40() {
        DecisionChain x = fresh();
        Check.due("38: bestGain()", 65000000L, x::bestGain);
        Check.due("39: bestAction(0)", 0, () -> x.bestAction(0));
        Check.due("40: pureSets()", 2, x::pureSets);
        x.setLimit(0, 4);
        Check.due("38: bestGain()", -60000000L, x::bestGain);
        Check.due("39: bestAction(0)", 1, () -> x.bestAction(0));
        Check.due("39: bestAction(2)", 0, () -> x.bestAction(2));
        Check.due("40: pureSets()", 1, x::pureSets);
        x.setLimit(1, 2);
        Check.due("38: bestGain()", NOTHING, x::bestGain);
        Check.due("39: bestAction(0)", NONE, () -> x.bestAction(0));
        Check.due("40: pureSets()", 0, x::pureSets);
        x.setLimit(0, 9999);
        x.permit(0, 0, false);
        x.setLimit(1, 3);
        Check.due("40: a budget that is used up holds", 1, x::pureSets);
        Check.due("38: permitted actions alone", -60000000L, x::bestGain);
        x.setStart(1);
        Check.due("38: another start state", 30000000L, x::bestGain);
        x.setHorizon(2);
        Check.due("38: another horizon", 20000L, x::bestGain);
        Check.noIndex("39: bestAction(3)", () -> x.bestAction(3));
        Check.noIndex("39: bestAction(-1)", () -> x.bestAction(-1));
        DecisionChain y = Check.loaded(EVEN);
        Check.due("39: of several the smallest", 0, () -> y.bestAction(0));
        Check.due("39: of several the smallest", 0, () -> y.bestAction(1));
        y.permit(1, 0, false);
        Check.due("39: of several the smallest", 0, () -> y.bestAction(0));
        Check.due("39: the permitted one", 1, () -> y.bestAction(1));
        StringBuilder most = new StringBuilder("chain states 6 horizon 5 seed 0");
        for (int k = 0; k < 18; k++) {
            most.append(";act ").append(k / 3).append(" 999 to ").append((k + 1) % 6).append(" 100");
        }
        DecisionChain z = Check.loaded(most.toString());
        Check.due("40: pureSets()", 729, z::pureSets);
        Check.due("38: bestGain()", 49950000000000000L, z::bestGain);
    }

    private static void promise41() {
        DecisionChain x = fresh();
        Check.due("41: worth(0, 9999)", 0L, () -> x.worth(0, 9999));
        x.setLimit(0, 4);
        Check.due("41: worth(0, 1)", 125000000L, () -> x.worth(0, 1));
        Check.due("41: worth(1, 5)", 0L, () -> x.worth(1, 5));
        x.setLimit(0, 3);
        Check.due("41: worth(0, 1) is too little", 0L, () -> x.worth(0, 1));
        Check.due("41: worth(0, 2)", 125000000L, () -> x.worth(0, 2));
        x.setLimit(1, 2);
        Check.due("41: worth(0, 2)", NOTHING, () -> x.worth(0, 2));
        Check.due("41: nothing changes", 3, () -> x.limit(0));
        Check.noArgument("41: worth(0, 0)", () -> x.worth(0, 0));
        Check.noArgument("41: worth(0, 10000)", () -> x.worth(0, 10000));
        Check.noIndex("41: worth(2, 0)", () -> x.worth(2, 0));
        Check.noIndex("41: worth(-1, 1)", () -> x.worth(-1, 1));
    }

    private static void promise42() {
        DecisionChain x = fresh();
        Check.due("42: leastLimit(0)", 0, () -> x.leastLimit(0));
        Check.due("42: leastLimit(1)", 2, () -> x.leastLimit(1));
        x.setLimit(0, 4);
        Check.due("42: leastLimit(1)", 3, () -> x.leastLimit(1));
        x.setLimit(1, 2);
        Check.due("42: leastLimit(0)", 5, () -> x.leastLimit(0));
        x.setLimit(1, 1);
        Check.due("42: leastLimit(0)", NONE, () -> x.leastLimit(0));
        x.setLimit(1, 3);
        x.permit(0, 1, false);
        Check.due("42: leastLimit(0)", 5, () -> x.leastLimit(0));
        Check.noIndex("42: leastLimit(2)", () -> x.leastLimit(2));
        Check.noIndex("42: leastLimit(-1)", () -> x.leastLimit(-1));
    }

    private static void promise43() {
        DecisionChain x = fresh();
        Check.due("43: bestWeight(0, 0, 1)", 0, () -> x.bestWeight(0, 0, 1));
        Check.due("43: bestWeight(0, 1, 0)", 10, () -> x.bestWeight(0, 1, 0));
        x.permit(0, 0, false);
        Check.due("43: what is permitted does not matter", 10, () -> x.bestWeight(0, 1, 0));
        x.setHorizon(1);
        x.setLimit(0, 2);
        // One step uses 3 with the weight / 10, so 6 is the greatest weight with which 2 are enough.
        Check.due("43: bestWeight(0, 1, 0)", 6, () -> x.bestWeight(0, 1, 0));
        Check.due("43: bestWeight(0, 0, 1)", 4, () -> x.bestWeight(0, 0, 1));
        Check.due("43: nothing changes", 6, () -> x.weight(0, 0));
        x.setStart(2);
        x.setLimit(0, 0);
        Check.due("43: the budgets hold with no weight", NONE, () -> x.bestWeight(0, 0, 1));
        x.setStart(1);
        Check.due("43: of several the smallest", 0, () -> x.bestWeight(0, 1, 0));
        Check.noArgument("43: bestWeight(0, 1, 1)", () -> x.bestWeight(0, 1, 1));
        Check.noIndex("43: bestWeight(0, 2, 2)", () -> x.bestWeight(0, 2, 2));
        Check.noIndex("43: bestWeight(0, 0, 2)", () -> x.bestWeight(0, 0, 2));
        Check.noIndex("43: bestWeight(0, -1, 0)", () -> x.bestWeight(0, -1, 0));
        Check.noIndex("43: bestWeight(3, 0, 1)", () -> x.bestWeight(3, 0, 1));
        // The weight of the third action counts for nothing while two others are weighed.
        DecisionChain y = Check.loaded("chain states 1 horizon 1 seed 0;budget 1;"
                + "act 0 1 to 0 100;act 0 2 uses 0 2 to 0 100;act 0 9 uses 0 50 to 0 100;rule 0 0 0 10");
        Check.due("43: bestWeight(0, 0, 1)", 5, () -> y.bestWeight(0, 0, 1));
        Check.due("43: bestWeight(0, 1, 2)", NONE, () -> y.bestWeight(0, 1, 2));
        y.setLimit(0, 35);
        Check.due("43: bestWeight(0, 0, 2)", 7, () -> y.bestWeight(0, 0, 2));
        Check.due("43: bestWeight(0, 2, 0)", 3, () -> y.bestWeight(0, 2, 0));
    }

    private static void promises44To48() {
        DecisionChain x = fresh();
        Check.due("44: seed()", 7, x::seed);
        Check.noState("45: walked(-1)", () -> x.walked(-1));
        Check.noState("46: walkedBy(-1)", () -> x.walkedBy(-1));
        Check.noState("47: walkGain()", x::walkGain);
        Check.noState("48: walkUsed(-1)", () -> x.walkUsed(-1));
        // Draws: 1784 (action 0), 15411 (state 1), 204, 23257, 15110, 27417.
        x.walk();
        Check.due("44: seed()", 27417, x::seed);
        int[] row = {0, 1, 1, 1};
        for (int t = 0; t < 4; t++) {
            int time = t;
            Check.due("45: walked", row[t], () -> x.walked(time));
        }
        Check.due("46: walkedBy(0)", 0, () -> x.walkedBy(0));
        Check.due("46: walkedBy(2)", 0, () -> x.walkedBy(2));
        Check.due("47: walkGain()", 7, x::walkGain);
        Check.due("48: walkUsed(0)", 3, () -> x.walkUsed(0));
        Check.due("48: walkUsed(1)", 0, () -> x.walkUsed(1));
        x.setHorizon(1);
        Check.due("45: walked(3) of a walk of three steps", 1, () -> x.walked(3));
        Check.due("46: walkedBy(2) of a walk of three steps", 0, () -> x.walkedBy(2));
        x.setHorizon(5);
        Check.noArgument("45: walked(4)", () -> x.walked(4));
        Check.noArgument("45: walked(-1)", () -> x.walked(-1));
        Check.noArgument("46: walkedBy(3)", () -> x.walkedBy(3));
        Check.noArgument("46: walkedBy(-1)", () -> x.walkedBy(-1));
        Check.noIndex("48: walkUsed(2)", () -> x.walkUsed(2));
        Check.noIndex("48: walkUsed(-1)", () -> x.walkUsed(-1));
    }

    private static void promise49() {
        DecisionChain x = fresh();
        Check.due("49: gainOfWalks(1)", 7, () -> x.gainOfWalks(1));
        int sum = x.gainOfWalks(3);
        int all = x.gainOfWalks(200);
        Check.due("49: the seed stays", 7, x::seed);
        Check.noState("49: there is no walk", x::walkGain);
        Check.due("49: no change", 0, x::undoable);
        int walked = 0;
        for (int k = 0; k < 200; k++) {
            x.walk();
            walked += x.walkGain();
            if (k == 2) {
                int three = walked;
                Check.due("49: gainOfWalks(3)", three, () -> sum);
            }
        }
        int twoHundred = walked;
        Check.due("49: gainOfWalks(200)", twoHundred, () -> all);
        Check.noArgument("49: gainOfWalks(0)", () -> x.gainOfWalks(0));
        Check.noArgument("49: gainOfWalks(201)", () -> x.gainOfWalks(201));
    }

    private static void promises50And51() {
        DecisionChain x = fresh();
        Check.noIndex("51: before the first report", () -> x.reportByte(0));
        Check.due("50: report(1)", 17, () -> x.report(1));
        Check.due("51: the text", "0:400,1:300,2:300", () -> Check.reported(x, 17));
        Check.noIndex("51: reportByte(17)", () -> x.reportByte(17));
        Check.noIndex("51: reportByte(-1)", () -> x.reportByte(-1));
        Check.noArgument("50: report(4)", () -> x.report(4));
        Check.noArgument("50: report(-1)", () -> x.report(-1));
        Check.due("51: the text stays", "0:400,1:300,2:300", () -> Check.reported(x, 17));
        Check.load(x, EVEN);
        Check.due("51: load does not write", "0:400,1:300,2:300", () -> Check.reported(x, 17));
        Check.due("50: report(0)", "1:1", () -> Check.report(x, 0));
        Check.noIndex("51: reportByte(3)", () -> x.reportByte(3));
        DecisionChain y = fresh();
        Check.due("50: report(3)", "0:160000000,1:486000000,2:354000000", () -> Check.report(y, 3));
        y.setStart(1);
        y.setHorizon(5);
        Check.due("50: report(5)", "1:1000000000000000", () -> Check.report(y, 5));
    }

    private static void promise52() {
        DecisionChain x = fresh();
        Check.due("52: setRule(0, 10, 0, 0)", 0, () -> x.setRule(0, 10, 0, 0));
        Check.due("52: weight(0, 0)", 10, () -> x.weight(0, 0));
        x.setLimit(0, 4);
        x.setLimit(1, 1);
        Check.due("52: setRule(0, 10, 0, 0)", 3, () -> x.setRule(0, 10, 0, 0));
        Check.due("52: setRule(0, 0, 10, 0)", 2, () -> x.setRule(0, 0, 10, 0));
        Check.due("52: weight(0, 0)", 0, () -> x.weight(0, 0));
        Check.due("52: weight(0, 1)", 10, () -> x.weight(0, 1));
        Check.due("52: each is a change", 5, x::undoable);
        int[][] wrong = {{-1, 11, 0}, {11, -1, 0}, {5, 4, 0}, {5, 6, 0}, {0, 0, 10}, {5, 0, 5}, {10, 0, -1},
            {10, 1, -1}, {Integer.MAX_VALUE, Integer.MAX_VALUE, 12}, {10, Integer.MIN_VALUE, Integer.MIN_VALUE}};
        for (int[] w : wrong) {
            Check.noArgument("52: setRule", () -> x.setRule(0, w[0], w[1], w[2]));
        }
        Check.noArgument("52: setRule(1, 0, 10, 0)", () -> x.setRule(1, 0, 10, 0));
        Check.noArgument("52: setRule(1, 9, 1, 0)", () -> x.setRule(1, 9, 1, 0));
        Check.noArgument("52: setRule(0, 9, 0, 1)", () -> x.setRule(0, 9, 0, 1));
        Check.noIndex("52: setRule(3, 11, 0, 0)", () -> x.setRule(3, 11, 0, 0));
        Check.noIndex("52: setRule(-1, 10, 0, 0)", () -> x.setRule(-1, 10, 0, 0));
        Check.due("52: an exception changes nothing", 5, x::undoable);
        Check.due("52: an exception changes nothing", 10, () -> x.weight(0, 1));
        x.permit(0, 0, false);
        x.setRule(0, 10, 0, 0);
        Check.due("52: rules may tell what is not permitted", 10, () -> x.weight(0, 0));
        DecisionChain y = Check.loaded("chain states 1 horizon 1 seed 0;act 0 1 to 0 100;act 0 2 to 0 100;"
                + "act 0 3 to 0 100");
        Check.due("52: setRule(0, 1, 2, 7)", 0, () -> y.setRule(0, 1, 2, 7));
        Check.due("52: gainOfRun()", 26L, y::gainOfRun);
        Check.noArgument("52: setRule(0, -10, 10, 10)", () -> y.setRule(0, -10, 10, 10));
        Check.noArgument("52: setRule(0, 10, -10, 10)", () -> y.setRule(0, 10, -10, 10));
        Check.noArgument("52: setRule(0, 10, 10, -10)", () -> y.setRule(0, 10, 10, -10));
    }

    private static void promise53() {
        DecisionChain x = fresh();
        Check.due("53: takeBest()", 1, x::takeBest);
        Check.due("53: weight(0, 0)", 10, () -> x.weight(0, 0));
        Check.due("53: weight(0, 1)", 0, () -> x.weight(0, 1));
        Check.due("53: gainOfRun()", 65000000L, x::gainOfRun);
        Check.due("53: takeBest() once more", 0, x::takeBest);
        Check.due("53: both are changes", 2, x::undoable);
        x.setLimit(0, 0);
        x.setLimit(1, 0);
        Check.noState("53: no set holds", x::takeBest);
        Check.due("53: an exception changes nothing", 4, x::undoable);
        DecisionChain y = Check.loaded(EVEN);
        y.setRule(0, 0, 10, 0);
        y.setRule(1, 9, 1, 0);
        Check.due("53: takeBest()", 2, y::takeBest);
        Check.due("53: weight(1, 0)", 10, () -> y.weight(1, 0));
    }

    private static void promise54() {
        DecisionChain x = fresh();
        Check.due("54: permit(0, 0, false)", true, () -> x.permit(0, 0, false));
        Check.due("54: permit(0, 0, false) again", false, () -> x.permit(0, 0, false));
        Check.due("54: rules stay", 6, () -> x.weight(0, 0));
        Check.noArgument("54: permit(0, 1, false)", () -> x.permit(0, 1, false));
        Check.due("54: it is permitted yet", true, () -> x.isPermitted(0, 1));
        Check.due("54: permit(0, 1, true)", true, () -> x.permit(0, 1, true));
        Check.due("54: permit(0, 0, true)", false, () -> x.permit(0, 0, true));
        Check.due("54: each is a change", 4, x::undoable);
        Check.noArgument("54: permit(1, 0, false)", () -> x.permit(1, 0, false));
        Check.due("54: permit(1, 0, true)", true, () -> x.permit(1, 0, true));
        Check.noIndex("54: permit(1, 1, false)", () -> x.permit(1, 1, false));
        Check.noIndex("54: permit(0, -1, true)", () -> x.permit(0, -1, true));
        Check.noIndex("54: permit(3, 0, true)", () -> x.permit(3, 0, true));
        Check.due("54: an exception changes nothing", 5, x::undoable);
    }

    private static void promise55() {
        DecisionChain x = fresh();
        Check.due("55: setLimit(0, 9999)", 10, () -> x.setLimit(0, 9999));
        Check.due("55: setLimit(0, 0)", 9999, () -> x.setLimit(0, 0));
        Check.due("55: limit(0)", 0, () -> x.limit(0));
        Check.due("55: limit(1)", 4, () -> x.limit(1));
        Check.noArgument("55: setLimit(0, 10000)", () -> x.setLimit(0, 10000));
        Check.noArgument("55: setLimit(0, -1)", () -> x.setLimit(0, -1));
        Check.noIndex("55: setLimit(2, -1)", () -> x.setLimit(2, -1));
        Check.noIndex("55: setLimit(-1, 1)", () -> x.setLimit(-1, 1));
        Check.due("55: both are changes", 2, x::undoable);
    }

    private static void promise56() {
        DecisionChain x = fresh();
        Check.due("56: setStart(2)", 0, () -> x.setStart(2));
        Check.due("56: setStart(2)", 2, () -> x.setStart(2));
        Check.due("56: start()", 2, x::start);
        Check.due("56: flow(2, 0)", 1L, () -> x.flow(2, 0));
        Check.noIndex("56: setStart(3)", () -> x.setStart(3));
        Check.noIndex("56: setStart(-1)", () -> x.setStart(-1));
        Check.due("56: both are changes", 2, x::undoable);
    }

    private static void promise57() {
        DecisionChain x = fresh();
        x.walk();
        Check.due("57: setHorizon(1)", 3, () -> x.setHorizon(1));
        Check.due("57: setHorizon(5)", 1, () -> x.setHorizon(5));
        Check.due("57: horizon()", 5, x::horizon);
        Check.due("57: the walk stays", 7, x::walkGain);
        Check.noArgument("57: setHorizon(0)", () -> x.setHorizon(0));
        Check.noArgument("57: setHorizon(6)", () -> x.setHorizon(6));
        Check.due("57: each is a change", 3, x::undoable);
    }

    private static void promise58() {
        DecisionChain x = fresh();
        Check.due("58: walk()", 1, x::walk);
        x.setHorizon(1);
        x.setStart(2);
        // Draws: 18385, and 24260 with the d 60, which is beyond the 20 percent to state 0.
        Check.due("58: walk()", 2, x::walk);
        Check.due("58: walked(0)", 2, () -> x.walked(0));
        Check.noArgument("58: walked(2)", () -> x.walked(2));
        Check.due("58: walkUsed(1)", 2, () -> x.walkUsed(1));
        Check.due("58: each is a change", 4, x::undoable);
        // The order of the text decides, not that of the states' numbers.
        DecisionChain a = Check.loaded("chain states 2 horizon 1 seed 0;act 0 0 to 1 50 to 0 50;act 1 0 to 1 100");
        DecisionChain b = Check.loaded("chain states 2 horizon 1 seed 0;act 0 0 to 0 50 to 1 50;act 1 0 to 1 100");
        int end = a.walk();
        Check.due("58: the order of the text", 1 - end, b::walk);
        Check.due("58: the second draw", (1021 * 109 + 1021) % 30011, a::seed);
        Check.due("58: its state", (1021 * 109 + 1021) % 30011 % 100 < 50 ? 1 : 0, () -> end);
    }

    private static void promises59And60() {
        DecisionChain x = fresh();
        Check.noState("59: nothing to undo", x::undo);
        x.setRule(0, 1, 9, 0);
        x.takeBest();
        x.permit(0, 1, false);
        x.setLimit(1, 7);
        x.setStart(2);
        x.setHorizon(4);
        x.walk();
        Check.due("60: undoable()", 7, x::undoable);
        Check.due("59: undo of walk", 6, x::undo);
        Check.due("59: the seed is back", 7, x::seed);
        Check.noState("59: there is no walk", x::walkGain);
        Check.due("59: undo of setHorizon", 5, x::undo);
        Check.due("59: the horizon is back", 3, x::horizon);
        Check.due("59: undo of setStart", 4, x::undo);
        Check.due("59: the start is back", 0, x::start);
        Check.due("59: undo of setLimit", 3, x::undo);
        Check.due("59: the limit is back", 4, () -> x.limit(1));
        Check.due("59: undo of permit", 2, x::undo);
        Check.due("59: the permission is back", true, () -> x.isPermitted(0, 1));
        Check.due("59: undo of takeBest", 1, x::undo);
        Check.due("59: the rule is back", 9, () -> x.weight(0, 1));
        Check.due("59: undo of setRule", 0, x::undo);
        Check.due("59: the rule is back", 6, () -> x.weight(0, 0));
        Check.noState("59: nothing to undo", x::undo);
        for (int limit = 1; limit <= 9; limit++) {
            x.setLimit(0, limit);
        }
        Check.due("60: the latest seven are kept", 7, x::undoable);
        for (int left = 6; left >= 0; left--) {
            int due = left;
            Check.due("59: undo", due, x::undo);
            Check.due("59: limit(0)", due + 2, () -> x.limit(0));
        }
        Check.noState("59: nothing to undo", x::undo);
        Check.due("60: undoable()", 0, x::undoable);
        undoOfSecondWalk();
    }

    private static void undoOfSecondWalk() {
        DecisionChain x = fresh();
        x.walk();
        x.setStart(2);
        x.walk();
        x.undo();
        Check.due("59: the walk before is back", 0, () -> x.walked(0));
        Check.due("59: its gain", 7, x::walkGain);
        Check.due("59: its seed", 27417, x::seed);
    }

    private static void promises61And62() {
        DecisionChain x = fresh();
        Check.noState("62: nothing is saved", () -> x.restore(0));
        x.walk();
        Check.due("61: save(0)", 27417, () -> x.save(0));
        Check.due("61: save is no change", 1, x::undoable);
        x.setRule(0, 1, 9, 0);
        x.permit(0, 1, false);
        x.setLimit(1, 7);
        x.setStart(2);
        x.setHorizon(4);
        x.walk();
        int seed = x.seed();
        Check.due("61: save(1)", seed, () -> x.save(1));
        Check.due("62: restore(0)", 27417, () -> x.restore(0));
        Check.due("62: nothing can be undone", 0, x::undoable);
        Check.due("62: weight(0, 0)", 6, () -> x.weight(0, 0));
        Check.due("62: isPermitted(0, 1)", true, () -> x.isPermitted(0, 1));
        Check.due("62: limit(1)", 4, () -> x.limit(1));
        Check.due("62: start()", 0, x::start);
        Check.due("62: horizon()", 3, x::horizon);
        Check.due("62: walkGain()", 7, x::walkGain);
        Check.due("62: bestGain()", 65000000L, x::bestGain);
        Check.due("62: restore(1)", seed, () -> x.restore(1));
        Check.due("62: limit(1)", 7, () -> x.limit(1));
        Check.due("62: walked(0)", 2, () -> x.walked(0));
        x.setLimit(1, 1);
        Check.due("62: it stays saved", seed, () -> x.restore(1));
        Check.due("62: limit(1)", 7, () -> x.limit(1));
        x.setLimit(1, 2);
        x.save(1);
        x.setLimit(1, 3);
        x.restore(1);
        Check.due("61: in place of what was saved", 2, () -> x.limit(1));
        for (int k : new int[] {-1, 2, Integer.MIN_VALUE, Integer.MAX_VALUE}) {
            Check.noIndex("61: save", () -> x.save(k));
            Check.noIndex("62: restore", () -> x.restore(k));
        }
        x.setLimit(1, 3);
        Check.noIndex("62: restore(2)", () -> x.restore(2));
        Check.due("62: an exception changes nothing", 1, x::undoable);
    }
}
