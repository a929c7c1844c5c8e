/** Texts with and without errors (section 5; promises 3 to 5). */
public final class ParseTest {
    private static final String HEAD = "chain states 2 horizon 1 seed 0";
    private static final String ACTS = ";act 0 1 to 0 100;act 1 1 to 1 100";

    public static void main(String[] args) {
        head();
        tokens();
        budgets();
        acts();
        rules();
        starts();
        ends();
        Check.finish();
    }

    /** The text has the error at the position. */
    private static void wrong(String text, int code, int position) {
        DecisionChain x = new DecisionChain();
        Check.noArgument(text, () -> Check.load(x, text));
        Check.due(text + ": parseError()", code, x::parseError);
        Check.due(text + ": errorPosition()", position, x::errorPosition);
        Check.due(text + ": buffered()", 0, x::buffered);
        Check.due(text + ": states()", 0, x::states);
    }

    /** The text behind what is right has the error at its first byte. */
    private static void wrongAt(String right, String rest, int code) {
        wrong(right + rest, code, right.length());
    }

    private static DecisionChain right(String text, int actions) {
        DecisionChain x = new DecisionChain();
        Check.due(text, actions, () -> Check.load(x, text));
        Check.due(text + ": parseError()", 0, x::parseError);
        Check.due(text + ": errorPosition()", DecisionChain.NONE, x::errorPosition);
        return x;
    }

    private static void head() {
        wrongAt("", "", 1);
        wrongAt("   ", "", 1);
        wrongAt("", "states 1", 1);
        wrongAt("", ";", 1);
        wrongAt("chain ", "chain", 1);
        wrongAt("chain states", "", 1);
        wrongAt("chain states ", "x", 1);
        wrongAt("chain states ", "0", 2);
        wrongAt("chain states ", "7", 2);
        wrongAt("chain states ", "99999", 2);
        wrongAt("chain states ", "- 1", 1);
        wrongAt("chain states 6", "", 1);
        wrongAt("chain states 6 ", "7", 1);
        wrongAt("chain states 6 horizon ", "0", 2);
        wrongAt("chain states 6 horizon ", "6", 2);
        wrongAt("chain states 6 horizon 5 ", "horizon", 1);
        wrongAt("chain states 6 horizon 5 seed", "", 1);
        wrongAt("chain states 6 horizon 5 seed ", "30011", 2);
        wrongAt("chain states 6 horizon 5 seed 30010", "", 6);
        wrongAt("chain states 6 horizon 5 seed 30010 ", "1", 1);
        wrongAt("chain states 6 horizon 5 seed 30010 ", "act", 1);
    }

    private static void tokens() {
        wrongAt("", "Chain", 1);
        wrongAt("", "\tchain", 1);
        wrongAt("", "\u0000", 1);
        wrongAt("", "\u00ff", 1);
        wrongAt("chain", "\n", 1);
        wrongAt("", "chains", 1);
        wrongAt("", "chai", 1);
        wrongAt("", "thain", 1);
        wrongAt("", "chair", 1);
        wrongAt("", "chainstat", 1);
        wrongAt("chain states ", "000001", 1);
        wrongAt("chain states ", "1234567890123", 1);
        wrongAt("chain states ", "4294967297", 1);
        wrongAt("chain states 00002", "", 1);
        wrongAt("chain states 2", ".", 1);
        wrongAt(HEAD, "_", 1);
        wrongAt(HEAD + ";act 0 1 to 0 100", "-", 1);
        right("chain states1horizon1seed0;act0-1to0 100", 1);
        right("  chain  states 00001 horizon 00001 seed 00000 ; act 0 - 00001 to 0 00100  ", 1);
    }

    private static void budgets() {
        wrongAt(HEAD + ";budget", "", 1);
        wrongAt(HEAD + ";budget", ";", 1);
        wrongAt(HEAD + ";budget ", "-1", 1);
        wrongAt(HEAD + ";budget ", "10000", 2);
        wrongAt(HEAD + ";budget 1 ", "2", 1);
        wrongAt(HEAD + ";budget 1;budget 2;budget 3;", "budget", 4);
        wrongAt(HEAD + ";budget 1;budget 2;budget 3;", "budget 10000 x", 4);
        DecisionChain x = right(HEAD + ";budget 9999;budget 0" + ACTS + ";budget 7", 2);
        Check.due("budgets", 3, x::budgets);
        Check.due("limit(0)", 9999, () -> x.limit(0));
        Check.due("limit(1)", 0, () -> x.limit(1));
        Check.due("limit(2)", 7, () -> x.limit(2));
    }

    private static void acts() {
        wrongAt(HEAD + ";act", "", 1);
        wrongAt(HEAD + ";act ", "x", 1);
        wrongAt(HEAD + ";act ", "2", 2);
        wrongAt(HEAD + ";act 0", "", 1);
        wrongAt(HEAD + ";act 0", ";", 1);
        wrongAt(HEAD + ";act 0 ", "1000", 2);
        wrongAt(HEAD + ";act 0 -", "1000", 2);
        wrongAt(HEAD + ";act 0 -", "", 1);
        wrongAt(HEAD + ";act 0 -", "-1", 1);
        wrongAt(HEAD + ";act 0 1 ", "2", 1);
        wrongAt(HEAD + ";act 0 1", "", 5);
        wrongAt(HEAD + ";act 0 1", "  ", 5, 2);
        wrongAt(HEAD + ";act 0 1", ";", 5);
        wrongAt(HEAD + ";act 0 1 ", "start", 1);
        wrongAt(HEAD + ";act 0 1 uses", "", 1);
        wrongAt(HEAD + ";act 0 1 uses ", "0", 2);
        wrongAt(HEAD + ";budget 1;act 0 1 uses ", "1", 2);
        wrongAt(HEAD + ";budget 1;act 0 1 uses 0", "", 1);
        wrongAt(HEAD + ";budget 1;act 0 1 uses 0 ", "to", 1);
        wrongAt(HEAD + ";budget 1;act 0 1 uses 0 ", "0", 2);
        wrongAt(HEAD + ";budget 1;act 0 1 uses 0 ", "100", 2);
        wrongAt(HEAD + ";budget 1;act 0 1 uses 0 99 uses ", "0", 3);
        wrongAt(HEAD + ";budget 1;act 0 1 uses 0 99 uses ", "1", 2);
        wrongAt(HEAD + ";budget 1;budget 1;budget 1;act 0 1 uses 2 1 uses 0 1 uses 1 9 uses ", "2", 3);
        wrongAt(HEAD + ";budget 1;act 0 1 to 0 50 ", "uses 0 1", 1);
        wrongAt(HEAD + ";act 0 1 to", "", 1);
        wrongAt(HEAD + ";act 0 1 to ", "2", 2);
        wrongAt(HEAD + ";act 0 1 to 0", "", 1);
        wrongAt(HEAD + ";act 0 1 to 0 ", "0", 2);
        wrongAt(HEAD + ";act 0 1 to 0 ", "101", 2);
        wrongAt(HEAD + ";act 0 1 to 0 60 to ", "0", 3);
        wrongAt(HEAD + ";act 0 1 to 0 60 to 1 ", "41", 2);
        wrongAt(HEAD + ";act 0 1 to 0 60 to 1 39", ";", 5);
        wrongAt(HEAD + ";act 0 1 to 0 60 to 1 39", "", 5);
        wrongAt(HEAD + ";act 0 1 to 0 60 to 1 39 ", "9", 1);
        wrongAt(HEAD + ";act 0 1 to 0 100 to ", "0", 3);
        wrongAt(HEAD + ";act 0 1 to 0 100 to 1 ", "1", 2);
        wrongAt(HEAD + ";act 0 1 to 0 100 to 1", ";", 1);
        wrongAt(HEAD + ";act 0 1 to 0 60 to 1 40 to ", "1", 3);
        wrongAt(HEAD + ACTS + ACTS + ACTS + ";act ", "0", 4);
        wrongAt(HEAD + ACTS + ACTS + ACTS + ";act ", "2", 2);
        right(HEAD + ";budget 1;act 0 999 uses 0 99 to 1 1 to 0 99;act 1 -999 to 0 100", 2);
        right(HEAD + ACTS + ACTS + ACTS, 6);
        DecisionChain x = right(HEAD + ";act 1 -0 to 0 100;act 0 7 to 0 100;act 1 3 to 1 100", 3);
        Check.due("gain(1, 0)", 0, () -> x.gain(1, 0));
        Check.due("gain(1, 1)", 3, () -> x.gain(1, 1));
    }

    /** The error is behind what is right by some blanks: at the end of the text its number of bytes counts. */
    private static void wrongAt(String right, String blanks, int code, int more) {
        wrong(right + blanks, code, right.length() + more);
    }

    private static void rules() {
        wrongAt(HEAD + ";rule", "", 1);
        wrongAt(HEAD + ";rule ", "2", 2);
        wrongAt(HEAD + ACTS + ";rule 0", "", 1);
        wrongAt(HEAD + ACTS + ";rule 0", ";", 1);
        wrongAt(HEAD + ";rule 0 ", "1", 1);
        wrongAt(HEAD + ";rule 0 ", "11", 1);
        wrongAt(HEAD + ACTS + ";rule 0 ", "11", 2);
        wrongAt(HEAD + ACTS + ";rule 0 ", "-1", 1);
        wrongAt(HEAD + ACTS + ";rule 0 9", "", 5);
        wrongAt(HEAD + ACTS + ";rule 0 9", ";", 5);
        wrongAt(HEAD + ACTS + ";rule 0 9", " x", 1, 1);
        wrongAt(HEAD + ACTS + ";rule 0 9 ", "1", 1);
        wrongAt(HEAD + ACTS + ACTS + ";rule 0 9 ", "2", 2);
        wrongAt(HEAD + ACTS + ACTS + ";rule 0 9 1 ", "0", 1);
        wrongAt(HEAD + ACTS + ACTS + ACTS + ";rule 0 1 2 7 ", "0", 1);
        wrongAt(HEAD + ACTS + ";rule 0 10;rule ", "0", 3);
        wrongAt(HEAD + ACTS + ";rule 0 10;rule 1 10;rule ", "1", 3);
        wrongAt(HEAD + ";act 0 1 to 0 100;rule 0 9", "", 5);
        DecisionChain x = right(HEAD + ACTS + ";rule 0 10" + ACTS + ACTS + ";rule 1 0 3 7", 6);
        Check.due("weight(0, 0)", 10, () -> x.weight(0, 0));
        Check.due("weight(0, 1)", 0, () -> x.weight(0, 1));
        Check.due("weight(1, 0)", 0, () -> x.weight(1, 0));
        Check.due("weight(1, 1)", 3, () -> x.weight(1, 1));
        Check.due("weight(1, 2)", 7, () -> x.weight(1, 2));
        DecisionChain y = right(HEAD + ACTS + ACTS + ";rule 0 0 10", 4);
        Check.due("weight(0, 1)", 10, () -> y.weight(0, 1));
        Check.due("weight(1, 0)", 10, () -> y.weight(1, 0));
        Check.due("weight(1, 1)", 0, () -> y.weight(1, 1));
    }

    private static void starts() {
        wrongAt(HEAD + ";start", "", 1);
        wrongAt(HEAD + ";start ", "2", 2);
        wrongAt(HEAD + ";start 1 ", "1", 1);
        Check.due("without a start line", 0, right(HEAD + ACTS, 2)::start);
        Check.due("one start line", 1, right(HEAD + ";start 1" + ACTS, 2)::start);
        Check.due("several start lines", 0, right(HEAD + ";start 1" + ACTS + ";start 1;start 0", 2)::start);
    }

    private static void ends() {
        wrongAt(HEAD + ";", "", 1);
        wrongAt(HEAD + ";", ";", 1);
        wrongAt(HEAD + ACTS + ";", "", 1);
        wrongAt(HEAD + ";", "states 2", 1);
        wrongAt(HEAD + ";", "7", 1);
        wrongAt(HEAD + ";act 1 1 to 1 100", "", 6);
        wrongAt(HEAD + ";act 0 1 to 1 100;budget 1", "", 6);
        wrongAt(HEAD + ";act 0 1 to 1 100;start 1", "   ", 6, 3);
        DecisionChain x = new DecisionChain();
        Check.append(x, HEAD + ACTS + ";x");
        Check.due("bytes behind the first n do not count", 2, () -> x.load(HEAD.length() + ACTS.length()));
        Check.append(x, HEAD + ACTS);
        Check.noArgument("a text that is cut", () -> x.load(HEAD.length() + ACTS.length() - 1));
        Check.due("a text that is cut", 5, x::parseError);
        Check.due("a text that is cut", HEAD.length() + ACTS.length() - 1, x::errorPosition);
    }
}
