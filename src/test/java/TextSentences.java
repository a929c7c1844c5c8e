import java.util.Arrays;

/** Section 5 and the promises 1 to 6: the input buffer and the text. */
final class TextSentences extends Sentences {
    private static final int BLANKS = 0x20202020;
    private static final String HEAD = "chain states 2 horizon 1 seed 0";
    private static final String ACTS = ";act 0 1 to 0 100;act 1 1 to 1 100";
    /** As many bytes as the buffer holds: the last one ends the last token. */
    private static final String FULL = HEAD + " ".repeat(1200 - HEAD.length() - ACTS.length()) + ACTS;

    private TextSentences() {
    }

    static void run() {
        newObject();
        append();
        appendedBytes();
        load();
        loadResults();
        loadRefusals();
        errors();
        buffered();
        section(5);
        tokens();
        runs();
        grammar();
        numbers();
        percents();
        weights();
        starts();
        firstErrors();
        positions();
        errorOne();
        errorsTwoAndThree();
        errorsFourToSix();
    }

    // ---- texts

    /** The text has the error at the position, and what was there before stays. */
    private static void wrong(String text, int code, int position) {
        DecisionChain x = new DecisionChain();
        due(text, NO_ARGUMENT, () -> Check.load(x, text));
        due(text + ": parseError()", code, x::parseError);
        due(text + ": errorPosition()", position, x::errorPosition);
        due(text + ": buffered()", 0, x::buffered);
        due(text + ": states()", 0, x::states);
    }

    /** The text behind what is right has the error at its first byte. */
    private static void wrongAt(String right, String rest, int code) {
        wrong(right + rest, code, right.length());
    }

    private static DecisionChain right(String text, int actions) {
        DecisionChain x = new DecisionChain();
        due(text, actions, () -> Check.load(x, text));
        due(text + ": parseError()", 0, x::parseError);
        due(text + ": errorPosition()", NONE, x::errorPosition);
        return x;
    }

    /** Twenty blanks, but for one byte. */
    private static DecisionChain blanksWith(int b, int at) {
        int[] fours = new int[5];
        Arrays.fill(fours, BLANKS);
        int shift = 24 - at % 4 * 8;
        fours[at / 4] = BLANKS & ~(255 << shift) | b << shift;
        DecisionChain x = new DecisionChain();
        due("append", 20, () -> x.append(fours[0], fours[1], fours[2], fours[3], fours[4]));
        return x;
    }

    // ---- promises

    private static void newObject() {
        promise(1);
        says("Creates an object without a chain and with an empty input buffer.");
        due("buffered()", 0, () -> new DecisionChain().buffered());
        due("states()", 0, () -> new DecisionChain().states());
        due("start()", NO_STATE, () -> new DecisionChain().start());
        due("undo()", NO_STATE, () -> new DecisionChain().undo());
        due("restore(0)", NO_STATE, () -> new DecisionChain().restore(0));
        due("reportByte(0)", NO_INDEX, () -> new DecisionChain().reportByte(0));
        due("load(1)", NO_INDEX, () -> new DecisionChain().load(1));
        due("load(0)", NO_ARGUMENT, () -> new DecisionChain().load(0));
    }

    private static void append() {
        promise(2);
        says("Appends twenty bytes to the input buffer: the four bytes of each argument in order, the most significant"
                + " byte first.");
        DecisionChain x = new DecisionChain();
        // "chai" "n st" "ates" " 1 h" "oriz" and "on 1" " see" "d 0;" "act " "0 0 " and "to 0" " 100" with blanks.
        x.append(0x63686169, 0x6e207374, 0x61746573, 0x20312068, 0x6f72697a);
        x.append(0x6f6e2031, 0x20736565, 0x6420303b, 0x61637420, 0x30203020);
        x.append(0x746f2030, 0x20313030, BLANKS, BLANKS, BLANKS);
        due("load(48)", 1, () -> x.load(48));
        says("Returns the number of bytes in the buffer;");
        DecisionChain y = new DecisionChain();
        for (int k = 1; k <= 60; k++) {
            due("append", 20 * k, () -> y.append(BLANKS, BLANKS, BLANKS, BLANKS, BLANKS));
        }
        says("NONE if there would be more than 1200, in which case nothing is appended.");
        due("append to 1200", NONE, () -> y.append(-1, -1, -1, -1, -1));
        due("append once more", NONE, () -> y.append(0, 0, 0, 0, 0));
        due("buffered()", 1200, y::buffered);
        due("load(1200)", NO_ARGUMENT, () -> y.load(1200));
        due("blanks alone: errorPosition()", 1200, y::errorPosition);
        due("append to the empty buffer", 20, () -> y.append(-1, -1, -1, -1, -1));
        DecisionChain full = new DecisionChain();
        Check.append(full, FULL);
        due("append to 1200", NONE, () -> full.append(-1, -1, -1, -1, -1));
        due("the bytes stay", 2, () -> full.load(1200));
    }

    private static void appendedBytes() {
        String[] told = {"- `a`: bytes 0 to 3", "- `b`: bytes 4 to 7", "- `c`: bytes 8 to 11",
            "- `d`: bytes 12 to 15", "- `e`: bytes 16 to 19"};
        for (int at = 0; at < 20; at++) {
            if (at % 4 == 0) {
                says(told[at / 4]);
            }
            for (int b : new int[] {0, 'X', 127, 128, 255}) {
                DecisionChain x = blanksWith(b, at);
                due("byte " + at, NO_ARGUMENT, () -> x.load(20));
                due("byte " + at + ": parseError()", 1, x::parseError);
                due("byte " + at + ": errorPosition()", at, x::errorPosition);
            }
        }
    }

    private static void load() {
        promise(3);
        says("Parses the first n bytes of the input buffer and empties the buffer, even if the parse fails.");
        DecisionChain x = new DecisionChain();
        Check.append(x, HEAD + ACTS + ";wrong");
        due("what is behind them does not count", 2, () -> x.load((HEAD + ACTS).length()));
        due("buffered()", 0, x::buffered);
        due("what was behind them is gone", NO_INDEX, () -> x.load(1));
        Check.append(x, HEAD + ACTS);
        due("a text that is cut", NO_ARGUMENT, () -> x.load((HEAD + ACTS).length() - 1));
        due("buffered()", 0, x::buffered);
        due("append", 20, () -> x.append(0, 0, 0, 0, 0));
        due("a wrong text", NO_ARGUMENT, () -> x.load(20));
        due("buffered()", 0, x::buffered);
        due("the bytes before are gone", 2, () -> Check.load(x, HEAD + ACTS));
        due("a letter behind them", NO_ARGUMENT, () -> {
            Check.append(x, "chainx");
            return x.load(5);
        });
        due("a letter behind them: errorPosition()", 5, x::errorPosition);
        Check.append(x, HEAD + ACTS + "0");
        due("a digit behind them", 2, () -> x.load((HEAD + ACTS).length()));
        says("- `n`: number of bytes to parse");
        DecisionChain y = new DecisionChain();
        Check.append(y, TINY + ";");
        due("load(0)", NO_ARGUMENT, () -> y.load(0));
        due("load(0): parseError()", 1, y::parseError);
        due("load(0): errorPosition()", 0, y::errorPosition);
        due("load(0): buffered()", 0, y::buffered);
        due("all 1200", 2, () -> Check.load(y, FULL));
        Check.append(y, FULL);
        due("1199", NO_ARGUMENT, () -> y.load(1199));
        due("1199: parseError()", 5, y::parseError);
        due("1199: errorPosition()", 1199, y::errorPosition);
    }

    private static void loadResults() {
        says("On success the chain replaces the previous one, there is no walk, nothing can be undone, and no state is"
                + " saved.");
        DecisionChain x = big();
        x.permit(0, 0, false);
        x.setHorizon(2);
        x.setStart(5);
        x.walk();
        x.save(0);
        x.save(1);
        due("undoable()", 4, x::undoable);
        due("load", 2, () -> Check.load(x, HEAD + ACTS));
        due("states()", 2, x::states);
        due("budgets()", 0, x::budgets);
        due("horizon()", 1, x::horizon);
        due("start()", 0, x::start);
        due("actions(0)", 1, () -> x.actions(0));
        due("isPermitted(0, 0)", true, () -> x.isPermitted(0, 0));
        due("gain(0, 0)", 1, () -> x.gain(0, 0));
        due("percent(0, 0, 1)", 0, () -> x.percent(0, 0, 1));
        due("seed()", 0, x::seed);
        due("bestGain()", 10L, x::bestGain);
        due("walked(0)", NO_STATE, () -> x.walked(0));
        due("undoable()", 0, x::undoable);
        due("undo()", NO_STATE, x::undo);
        due("restore(0)", NO_STATE, () -> x.restore(0));
        due("restore(1)", NO_STATE, () -> x.restore(1));
        due("all is as in a new object with this chain", Whole.of(loaded(HEAD + ACTS)), () -> Whole.of(x));
        DecisionChain again = mid();
        due("bestGain() of the first text", 65000000L, again::bestGain);
        due("load", 4, () -> Check.load(again, MID.replace("act 0 5", "act 0 6")));
        due("bestGain() of a text with the same start and horizon", 76000000L, again::bestGain);
        String turned = "chain states 2 horizon 1 seed 0;act 0 0 to 1 50 to 0 50;act 1 0 to 1 100";
        for (int k = 0; k < 8; k++) {
            Check.load(again, MID);
            due("load", 2, () -> Check.load(again, turned));
            row("percent of the text number " + k, again, (y, next) -> y.percent(0, 0, next), 50, 50, NO_INDEX);
            due("walk() of the text number " + k, loaded(turned).walk(), again::walk);
        }
        says("Returns the number of actions.");
        due("the smallest", 1, () -> Check.load(new DecisionChain(), TINY));
        due("the greatest", 18, () -> Check.load(new DecisionChain(), bigText()));
        due("4", 4, () -> Check.load(changed(), MID));
    }

    private static void loadRefusals() {
        says("Throws `IndexOutOfBoundsException` if n is negative or greater than the number of bytes in the buffer;");
        for (int n : new int[] {-1, 21, 1200, LEAST, MOST}) {
            refused(NO_INDEX, Sentences::busy, "load(" + n + ") of 20", x -> x.load(n));
        }
        refused(NO_INDEX, DecisionChain::new, "load(1) of none", x -> x.load(1));
        DecisionChain full = new DecisionChain();
        Check.append(full, FULL);
        due("load(1201)", NO_INDEX, () -> full.load(1201));
        due("load(1200) behind it", 2, () -> full.load(1200));
        says("the buffer, parseError() and errorPosition() stay");
        DecisionChain x = busy();
        due("load(21)", NO_INDEX, () -> x.load(21));
        due("buffered()", 20, x::buffered);
        due("parseError()", 2, x::parseError);
        due("errorPosition()", 13, x::errorPosition);
        due("load(15)", NO_ARGUMENT, () -> x.load(15));
        due("the bytes stay: parseError()", 1, x::parseError);
        due("the bytes stay: errorPosition()", 15, x::errorPosition);
        says("Throws `IllegalArgumentException` if the text has an error;");
        due("load", NO_ARGUMENT, () -> Check.load(new DecisionChain(), "chain"));
        due("an error in the last byte", NO_ARGUMENT, () -> Check.load(new DecisionChain(), TINY + ";"));
        due("no error", 1, () -> Check.load(new DecisionChain(), TINY));
        says("the previous chain stays");
        String[] texts = {"", "chain states 1 horizon 1 seed 3", bigText() + ";", HEAD + ";budget 1;act 1 9 to 0 100",
            HEAD + ";start 1;act 0 9 uses 0 1", HEAD + ACTS + ";rule 0 9"};
        for (String text : texts) {
            DecisionChain y = changed();
            due(text, NO_ARGUMENT, () -> Check.load(y, text));
            due(text + " changes nothing", Whole.ofChain(changed()), () -> Whole.ofChain(y));
        }
    }

    private static void errors() {
        String[] texts = {"chain x", "chain states 7", HEAD + ";act 0 1 to 0 1 to 0 1",
            HEAD + ";budget 1;budget 1;budget 1;budget 1", HEAD + ";act 0 1 to 0 1;", HEAD};
        int[] positions = {6, 13, 50, 59, 46, 31};
        promise(4);
        says("Returns the parse error code of the latest call of load that did not throw IndexOutOfBoundsException.");
        DecisionChain x = new DecisionChain();
        for (int k = 0; k < 6; k++) {
            int at = k;
            Check.answerOf(() -> Check.load(x, texts[at]));
            due(texts[k], k + 1, x::parseError);
            due("load(1)", NO_INDEX, () -> x.load(1));
            due(texts[k] + " and then load(1)", k + 1, x::parseError);
        }
        says("Returns the code 1 to 6;");
        due("the smallest", "throws.IllegalArgumentException 1", () -> errorOf(texts[0]));
        due("the greatest", "throws.IllegalArgumentException 6", () -> errorOf(texts[5]));
        says("0 if that call succeeded or if there was none.");
        due("no call", 0, () -> new DecisionChain().parseError());
        Check.load(x, TINY);
        due("a call that succeeded", 0, x::parseError);
        DecisionChain y = new DecisionChain();
        due("load(-1)", NO_INDEX, () -> y.load(-1));
        due("a call alone that threw IndexOutOfBoundsException", 0, y::parseError);
        promise(5);
        says("Returns the position of the parse error of that call of load.");
        for (int k = 0; k < 6; k++) {
            int at = k;
            Check.answerOf(() -> Check.load(y, texts[at]));
            due("load(-1)", NO_INDEX, () -> y.load(-1));
            due(texts[k] + " and then load(-1)", positions[k], y::errorPosition);
        }
        says("Returns the position;");
        due("the smallest", 0, () -> positionOf("x"));
        due("the greatest", 1200, () -> positionOf(" ".repeat(1200)));
        says("NONE if parseError() is 0.");
        due("no call", NONE, () -> new DecisionChain().errorPosition());
        Check.load(y, TINY);
        due("a call that succeeded", NONE, y::errorPosition);
    }

    private static String errorOf(String text) {
        DecisionChain x = new DecisionChain();
        return Check.answerOf(() -> Check.load(x, text)) + " " + x.parseError();
    }

    private static int positionOf(String text) {
        DecisionChain x = new DecisionChain();
        Check.answerOf(() -> Check.load(x, text));
        return x.errorPosition();
    }

    private static void buffered() {
        promise(6);
        says("Returns the number of bytes in the input buffer.");
        DecisionChain x = new DecisionChain();
        due("empty", 0, x::buffered);
        x.append(0, 0, 0, 0, 0);
        due("twenty", 20, x::buffered);
        due("twenty after load(21)", NO_INDEX, () -> x.load(21));
        due("twenty", 20, x::buffered);
        due("load(1)", NO_ARGUMENT, () -> x.load(1));
        due("empty", 0, x::buffered);
        Check.append(x, FULL);
        due("full", 1200, x::buffered);
        due("load", 2, () -> x.load(1200));
        due("empty", 0, x::buffered);
    }

    // ---- section 5

    private static void tokens() {
        says("The input buffer holds at most 1200 bytes.");
        DecisionChain x = new DecisionChain();
        Check.append(x, FULL);
        due("buffered()", 1200, x::buffered);
        due("append", NONE, () -> x.append(BLANKS, BLANKS, BLANKS, BLANKS, BLANKS));
        due("load(1201)", NO_INDEX, () -> x.load(1201));
        due("load(1200)", 2, () -> x.load(1200));
        says("Tokens are words (1 to 8 lower-case letters), numbers (1 to 5 digits), the minus sign and the"
                + " semicolon.");
        wrongAt("", "x", 1);
        wrongAt("", "chainsta", 1);
        wrongAt("", "chainstat", 1);
        wrongAt("chain states ", "9", 2);
        wrongAt("chain states ", "99999", 2);
        wrongAt("chain states ", "100000", 1);
        wrongAt("chain states ", "000001", 1);
        right("chain states 00001 horizon 00001 seed 30010;act 00000 -00999 to 00000 00100", 1);
        for (char c : "\0\t\n\r!+,./:<=@AZ[_`{~\u007f\u0080\u00a0\u00ff".toCharArray()) {
            wrongAt(HEAD + ACTS, String.valueOf(c), 1);
        }
        says("Blanks (byte 32) only separate tokens.");
        right("chain states1horizon1seed0;act0-1to0 100", 1);
        right("   chain   states   1   horizon   1   seed   0   ;   act   0   -   1   to   0   100   ", 1);
        wrongAt("", "cha in states 1", 1);
        wrongAt("chain states 1 ", "0 horizon 1", 1);
        wrongAt("", "chainstates 1", 1);
        wrongAt("chain", "\tstates 1", 1);
        wrongAt(HEAD + ";act 0 1 to 0 ", "100100", 1);
    }

    private static void runs() {
        says("A run of letters ends at the first byte that is not a lower-case letter;");
        for (char c : "`{AZ@[".toCharArray()) {
            wrongAt("chain", c + " states 1", 1);
        }
        right("chain states 1horizon 1seed 0;act 0 0to 0 100", 1);
        right("chain states1 horizon1 seed0;act0-0to0 100", 1);
        wrongAt("", "chaina states 1", 1);
        wrongAt("", "chainz states 1", 1);
        says("a run of digits ends at the first byte that is not a digit.");
        for (char c : "/:.x".toCharArray()) {
            wrongAt("chain states 1", String.valueOf(c), 1);
        }
        wrongAt("chain states 6horizon 5seed 0", "-", 1);
        wrongAt("chain states ", "10", 2);
        wrongAt("chain states ", "19", 2);
        due("seed", 19, () -> loaded(TINY.replace("seed 0", "seed 19")).seed());
        due("seed", 90, () -> loaded(TINY.replace("seed 0", "seed 90")).seed());
    }

    private static void grammar() {
        says("text = \"chain\" \"states\" N \"horizon\" H \"seed\" SEED {\";\" line}");
        eachIsNeeded("", "chain states 1 horizon 1 seed 0");
        wrongAt("chain states 1 horizon 1 seed 0 ", "act 0 0 to 0 100", 1);
        wrongAt("chain states 1 horizon 1 seed 0", "", 6);
        wrongAt(TINY + ";", "", 1);
        wrongAt(TINY + ";", ";start 0", 1);
        wrongAt(TINY + ";", "chain", 1);
        right(TINY + ";start 0;start 0;budget 0", 1);
        says("line = \"budget\" LIMIT");
        eachIsNeeded(TINY + ";", "budget 7");
        wrongAt(TINY + ";budget 7 ", "8", 1);
        wrongAt(TINY + ";budget ", "-7", 1);
        says("line = \"act\" STATE [\"-\"] GAIN {\"uses\" BUDGET AMOUNT} {\"to\" STATE PERCENT}");
        String two = HEAD + ";budget 1;budget 1" + ACTS + ";";
        eachIsNeeded(two, "act 0 5 uses 0 1 uses 1 1 to 0 1 to 1 99");
        eachIsNeeded(two, "act 0 - 5 uses 1 1 to 0 100");
        wrongAt(two + "act 0 -", "- 5 to 0 100", 1);
        wrongAt(two + "act 0 5 to 0 100 ", "uses 0 1", 1);
        wrongAt(two + "act 0 5 uses 0 1 ", "1 1 to 0 100", 1);
        right(two + "act 0 5 to 0 100", 3);
        right(two + "act 0 -5 uses 1 1 uses 0 1 to 1 50 to 0 50", 3);
        says("line = \"rule\" STATE WEIGHT {WEIGHT}");
        eachIsNeeded(HEAD + ACTS + ACTS + ACTS + ";", "rule 0 1 2 7");
        right(HEAD + ACTS + ";rule 0 10;rule 1 10", 2);
        says("line = \"start\" STATE");
        eachIsNeeded(HEAD + ACTS + ";", "start 1");
        wrongAt(HEAD + ACTS + ";start 1 ", "1", 1);
    }

    /** Where a token of the line is due, another one is not allowed; a minus sign may be left out. */
    private static void eachIsNeeded(String before, String line) {
        StringBuilder text = new StringBuilder(before);
        for (String token : line.split(" ")) {
            if (!token.equals("-")) {
                boolean number = Character.isDigit(token.charAt(0));
                wrongAt(text.toString(), number ? "x" : token + "x", 1);
                wrongAt(text.toString(), number ? "x" : "q" + token.substring(1), 1);
                wrongAt(text.toString(), number ? "x" : token.substring(0, token.length() - 1), 1);
                wrongAt(text.toString(), ";", errorOfEnd(text.toString()));
            }
            if (!text.toString().endsWith(";act 0 ")) {
                wrongAt(text.toString(), "-", 1);
            }
            text.append(token).append(' ');
        }
    }

    /** A semicolon may end an act or a rule line, of which the sum is not right yet. */
    private static int errorOfEnd(String text) {
        String line = text.substring(text.lastIndexOf(';') + 1);
        boolean act = line.matches("act \\d (- )?\\d (uses \\d \\d )*(to \\d \\d+ )*");
        boolean rule = line.matches("rule \\d \\d .*");
        return act || rule ? 5 : 1;
    }

    private static void numbers() {
        says("N is 1 to 6, H 1 to 5, SEED 0 to 30010;");
        wrongAt("chain states ", "0", 2);
        wrongAt("chain states ", "7", 2);
        wrongAt("chain states 1 horizon ", "0", 2);
        wrongAt("chain states 1 horizon ", "6", 2);
        wrongAt("chain states 1 horizon 1 seed ", "30011", 2);
        wrongAt("chain states 1 horizon 1 seed ", "-1", 1);
        due("N 1", 1, () -> tiny().states());
        due("N 6", 6, () -> big().states());
        due("H 1", 1, () -> tiny().horizon());
        due("H 5", 5, () -> big().horizon());
        due("SEED 0", 0, () -> tiny().seed());
        due("SEED 30010", 30010, () -> big().seed());
        says("LIMIT is 0 to 9999;");
        due("0", 0, () -> right(TINY + ";budget 0", 1).limit(0));
        due("9999", 9999, () -> right(TINY + ";budget 9999", 1).limit(0));
        wrongAt(TINY + ";budget ", "10000", 2);
        wrongAt(TINY + ";budget ", "99999", 2);
        says("STATE is 0 to N - 1;");
        for (String line : new String[] {";act ", ";act 0 1 to ", ";rule ", ";start "}) {
            wrongAt(TINY + line, "1", 2);
            wrongAt(HEAD + ACTS + line, "2", 2);
            wrongAt(HEAD.replace("states 2", "states 6") + line, "6", 2);
        }
        right(bigText() + ";start 5", 18);
        due("percent(5, 2, 5)", 100, () -> big().percent(5, 2, 5));
        says("GAIN is 0 to 999 (with the minus sign, the negative of it);");
        due("999", 999, () -> steady("999", 1, 0).gain(0, 0));
        due("0", 0, () -> steady("0", 1, 0).gain(0, 0));
        due("-0", 0, () -> steady("-0", 1, 0).gain(0, 0));
        due("-999", -999, () -> steady("-999", 1, 0).gain(0, 0));
        wrongAt(HEAD + ";act 0 ", "1000", 2);
        wrongAt(HEAD + ";act 0 -", "1000", 2);
        says("BUDGET is the number of an earlier budget, AMOUNT 1 to 99;");
        wrongAt(HEAD + ";act 0 0 uses ", "0", 2);
        wrongAt(HEAD + ";act 0 0 uses ", "0 1 to 0 100;budget 1", 2);
        wrongAt(HEAD + ";budget 1;act 0 0 uses ", "1", 2);
        wrongAt(HEAD + ";budget 1;budget 1;budget 1;act 0 0 uses ", "3", 2);
        due("the last budget", 20, () -> big().uses(0, 2, 2));
        due("1", 1, () -> steady("0", 1, 0).uses(0, 0, 0));
        due("99", 99, () -> steady("0", 99, 0).uses(0, 0, 0));
        wrongAt(HEAD + ";budget 1;act 0 0 uses 0 ", "0", 2);
        wrongAt(HEAD + ";budget 1;act 0 0 uses 0 ", "100", 2);
    }

    private static void percents() {
        says("PERCENT is 1 to 100 minus the sum of the percents before it in the line.");
        String line = HEAD.replace("states 2", "states 6") + ";act 0 0 to ";
        wrongAt(line + "0 ", "0", 2);
        wrongAt(line + "0 ", "101", 2);
        wrongAt(line + "0 40 to 1 ", "61", 2);
        wrongAt(line + "0 40 to 1 ", "0", 2);
        wrongAt(line + "0 40 to 1 59 to 2 ", "2", 2);
        wrongAt(line + "0 100 to 1 ", "1", 2);
        wrongAt(line + "0 100 to 1 ", "0", 2);
        DecisionChain x = right(HEAD + ";act 0 0 to 1 1 to 0 99;act 1 0 to 1 100", 2);
        due("1", 1, () -> x.percent(0, 0, 1));
        due("99, the rest", 99, () -> x.percent(0, 0, 0));
        due("100", 100, () -> x.percent(1, 0, 1));
        DecisionChain y = right(HEAD + ";act 0 0 to 1 99 to 0 1;act 1 0 to 1 100", 2);
        due("99", 99, () -> y.percent(0, 0, 1));
        due("1, the rest", 1, () -> y.percent(0, 0, 0));
    }

    private static void weights() {
        says("The WEIGHTs are those of the actions of STATE in their order, at most as many as STATE has so far;");
        DecisionChain x = right(HEAD + ACTS + ACTS + ACTS + ";rule 0 1 2 7", 6);
        row("weight", x, (y, k) -> y.weight(0, k), 1, 2, 7);
        wrongAt(HEAD + ";rule 0 ", "10", 1);
        wrongAt(HEAD + ACTS + ";rule 0 10 ", "0", 1);
        wrongAt(HEAD + ACTS + ACTS + ";rule 0 1 9 ", "0", 1);
        wrongAt(HEAD + ACTS + ACTS + ACTS + ";rule 0 1 2 7 ", "0", 1);
        wrongAt(HEAD + ACTS + ";rule 0 9 ", "1" + ACTS, 1);
        says("actions without a WEIGHT have 0;");
        DecisionChain one = right(HEAD + ACTS + ACTS + ACTS + ";rule 0 10", 6);
        row("weight", one, (y, k) -> y.weight(0, k), 10, 0, 0);
        DecisionChain two = right(HEAD + ACTS + ACTS + ACTS + ";rule 0 0 10", 6);
        row("weight", two, (y, k) -> y.weight(0, k), 0, 10, 0);
        DecisionChain later = right(HEAD + ACTS + ";rule 0 10" + ACTS, 4);
        row("weight of a later action", later, (y, k) -> y.weight(0, k), 10, 0);
        says("a WEIGHT is 0 to 10 minus the sum of those before it.");
        wrongAt(HEAD + ACTS + ";rule 0 ", "11", 2);
        wrongAt(HEAD + ACTS + ACTS + ";rule 0 4 ", "7", 2);
        wrongAt(HEAD + ACTS + ACTS + ";rule 0 10 ", "1", 2);
        wrongAt(HEAD + ACTS + ACTS + ACTS + ";rule 0 4 5 ", "2", 2);
        wrongAt(HEAD + ACTS + ";rule 0 ", "-1", 1);
        right(HEAD + ACTS + ACTS + ";rule 0 10 0", 4);
        DecisionChain rest = right(HEAD + ACTS + ACTS + ACTS + ";rule 0 4 0 6", 6);
        row("weight", rest, (y, k) -> y.weight(0, k), 4, 0, 6);
    }

    private static void starts() {
        says("Without a start line the start state is 0;");
        due("start()", 0, () -> right(HEAD + ACTS, 2).start());
        DecisionChain x = right(HEAD + ACTS + ";start 1", 2);
        due("start()", 1, x::start);
        due("load", 2, () -> Check.load(x, HEAD + ACTS));
        due("start() of the text before", 0, x::start);
        says("if there are several start lines, the last one counts.");
        due("start()", 0, () -> right(HEAD + ";start 1" + ACTS + ";start 1;start 0", 2).start());
        due("start()", 1, () -> right(HEAD + ";start 0;start 0" + ACTS + ";start 1", 2).start());
        wrongAt(HEAD + ACTS + ";start ", "2;start 1", 2);
        says("There are at most 3 budgets.");
        due("none", 0, () -> right(TINY, 1).budgets());
        DecisionChain three = right(TINY + ";budget 1;budget 2;budget 3", 1);
        due("three", 3, three::budgets);
        row("limit", three, DecisionChain::limit, 1, 2, 3, NO_INDEX);
        wrongAt(TINY + ";budget 1;budget 2;budget 3;", "budget 4", 4);
    }

    private static void firstErrors() {
        says("Parsing stops at the first token, from the left, at which an error is found;");
        wrongAt("chain states ", "7 horizon 9 seed x", 2);
        wrongAt(HEAD + ";act 0 1 to 0 ", "101;budget 10000;x", 2);
        wrongAt(HEAD + ";act 0 1 to 0 99", ";budget 10000", 5);
        wrongAt(HEAD + ";", "x;budget 10000", 1);
        wrongAt(HEAD + ";budget ", "10000 x", 2);
        says("if several errors apply to that token, the smallest code is reported.");
        wrongAt(HEAD + ACTS + ";rule 0 10 ", "11", 1);
        wrongAt(HEAD + ";rule 1 ", "11", 1);
        wrongAt("chain states ", "000007", 1);
        wrongAt(HEAD + ACTS + ACTS + ACTS + ";act ", "2", 2);
        wrongAt(HEAD + ";act 0 1 to 0 99", "", 5);
        wrongAt(HEAD + ";act 0 1 to 0 99 to 1", "", 1);
        wrongAt(HEAD + ";act 0 1 to 0 100;", "", 1);
        wrongAt(HEAD + ";act 0 1 to 0 100;rule 0 9", "", 5);
        wrongAt(HEAD + ";act 0 1 to 0 99 ", "50", 1);
    }

    private static void positions() {
        says("The position of an error is the index of the token's first byte;");
        wrongAt("", "9", 1);
        wrongAt("  ", "wrongwrong", 1);
        wrongAt("chain   states   ", "99999", 2);
        wrongAt(HEAD + ";budget 1;budget 1;budget 1;  ", "budget", 4);
        wrongAt(HEAD + ";act 0 1 to 0 99   ", ";", 5);
        says("at the end of the text it is the number of bytes.");
        wrong("", 1, 0);
        wrong("   ", 1, 3);
        wrong("chain", 1, 5);
        wrong("chain  ", 1, 7);
        wrong(HEAD + ";act 0 1 to 0 99 ", 5, HEAD.length() + 17);
        wrong(HEAD + "   ", 6, HEAD.length() + 3);
        DecisionChain x = new DecisionChain();
        Check.append(x, TINY);
        due("of the first n bytes", NO_ARGUMENT, () -> x.load(7));
        due("of the first n bytes", 6, x::errorPosition);
        Check.append(x, TINY);
        due("of the first n bytes", NO_ARGUMENT, () -> x.load(12));
        due("of the first n bytes", 12, x::errorPosition);
    }

    private static void errorOne() {
        says("1: a byte that starts no token, a word of 9 or more letters, a number of 6 or more digits, a token that"
                + " the grammar does not allow here, or the end of the text where a line is not complete;");
        wrongAt("chain ", "\u00e9", 1);
        wrongAt("chain states 2 ", "horizonss", 1);
        wrongAt("chain states 2 ", "horizonhorizon", 1);
        wrongAt("chain states ", "000002", 1);
        wrongAt("chain states ", "4294967298", 1);
        wrongAt("chain states ", "18446744073709551618", 1);
        wrongAt("chain states ", "horizon", 1);
        wrongAt("chain ", "chain", 1);
        for (String cut : new String[] {"budget", "act", "act 0", "act 0 -", "act 0 1 uses", "act 0 1 uses 0",
            "act 0 1 to", "act 0 1 to 0", "act 0 1 to 0 50 to", "act 0 1 to 0 50 to 1", "rule", "rule 0", "start",
            ""}) {
            wrongAt(HEAD + ";budget 1" + ACTS + ";" + cut, "", 1);
            wrongAt(HEAD + ";budget 1" + ACTS + ";" + cut, ";", 1);
        }
        says("a WEIGHT for an action that STATE does not have so far.");
        wrongAt(HEAD + ";rule 0 ", "0", 1);
        wrongAt(HEAD + ACTS + ";rule 1 10 ", "0" + ACTS, 1);
        wrongAt(HEAD + ACTS + ";act 0 1 to 0 100;rule 1 10 ", "0", 1);
        right(HEAD + ACTS + ";act 0 1 to 0 100;rule 0 10 0", 3);
    }

    private static void errorsTwoAndThree() {
        says("2: a number out of its bounds, where 1 does not apply.");
        wrongAt("chain states ", "7", 2);
        wrongAt(HEAD + ";budget ", "99999", 2);
        wrongAt(HEAD + ";budget ", "100000", 1);
        wrongAt(HEAD + ACTS + ACTS + ";rule 0 10 ", "1", 2);
        wrongAt(HEAD + ACTS + ACTS + ";rule 0 10 0 ", "1", 1);
        wrongAt(HEAD + ";budget 9999 ", "10000", 1);
        says("3: a BUDGET that the same line has told already;");
        String two = HEAD + ";budget 1;budget 1";
        wrongAt(two + ";act 0 1 uses 0 1 uses ", "0", 3);
        wrongAt(two + ";act 0 1 uses 1 1 uses 0 1 uses ", "1", 3);
        wrongAt(two + ";budget 1;act 0 1 uses 2 1 uses 1 1 uses 0 1 uses ", "2", 3);
        wrongAt(two + ";act 0 1 uses 1 1 uses 0 1 uses ", "2", 2);
        right(two + ";act 0 1 uses 0 1 to 0 100;act 0 1 uses 0 1 to 0 100;act 1 1 to 0 100", 3);
        says("a STATE behind \"to\" that the same line has told already;");
        wrongAt(HEAD + ";act 0 1 to 0 50 to ", "0", 3);
        wrongAt(HEAD + ";act 0 1 to 0 50 to 1 50 to ", "0", 3);
        wrongAt(HEAD + ";act 0 1 to 1 100 to ", "1", 3);
        wrongAt(HEAD + ";act 0 1 to 1 50 to ", "2", 2);
        wrongAt("chain states 6 horizon 1 seed 0;act 0 0 to 5 1 to 4 1 to 3 1 to 2 1 to 1 1 to 0 1 to ", "5", 3);
        right(HEAD + ";act 0 1 to 0 100;act 1 1 to 0 100", 2);
        says("the STATE of a rule line that an earlier rule line has told.");
        wrongAt(HEAD + ACTS + ";rule 0 10;rule ", "0", 3);
        wrongAt(HEAD + ACTS + ";rule 0 10;rule 1 10;rule ", "1 10", 3);
        wrongAt(bigText() + ";rule ", "5 10", 3);
        wrongAt(HEAD + ACTS + ";rule 0 10;rule 1 10;rule ", "0 10", 3);
        wrongAt(HEAD + ACTS + ";rule 1 10;start 0;rule ", "1", 3);
        right(bigText() + ";rule 0 10;rule 1 10;rule 2 10;rule 3 10;rule 4 10", 18);
    }

    private static void errorsFourToSix() {
        says("4: a fourth budget (at the word budget);");
        wrongAt(TINY + ";budget 1;budget 1;budget 1;", "budget", 4);
        wrongAt(TINY + ";budget 1;budget 1;budget 1;start 0;", "budget 10000", 4);
        right(TINY + ";budget 1;budget 1;budget 1", 1);
        says("a fourth action of a state (at STATE).");
        wrongAt(HEAD + ACTS + ACTS + ACTS + ";act ", "0", 4);
        wrongAt(HEAD + ACTS + ACTS + ACTS + ";act ", "1 x", 4);
        wrongAt(bigText() + ";act ", "5 1000", 4);
        right(bigText(), 18);
        says("5: the token behind an act line (a semicolon, or the end) whose percents do not sum to 100, or behind a"
                + " rule line whose weights do not sum to 10.");
        wrongAt(HEAD + ";act 0 1", "", 5);
        wrongAt(HEAD + ";act 0 1", ";", 5);
        wrongAt(HEAD + ";act 0 1 to 0 99", "", 5);
        wrongAt(HEAD + ";act 0 1 to 0 50 to 1 49", ";act 1 1 to 0 100", 5);
        right(HEAD + ";act 0 1 to 0 50 to 1 50;act 1 1 to 0 100", 2);
        wrongAt(HEAD + ACTS + ";rule 0 9", "", 5);
        wrongAt(HEAD + ACTS + ";rule 0 0", ";", 5);
        wrongAt(HEAD + ACTS + ACTS + ACTS + ";rule 0 1 2 6", ";rule 1 10", 5);
        right(HEAD + ACTS + ACTS + ACTS + ";rule 0 1 2 7;rule 1 10", 6);
        says("6: at the end of the text: a state without an action.");
        wrongAt(HEAD, "", 6);
        wrongAt(HEAD + ";act 1 1 to 1 100", "", 6);
        wrongAt(HEAD + ";act 0 1 to 1 100;start 1", "", 6);
        wrongAt("chain states 6" + bigText().substring(14, bigText().indexOf(";act 5")), "", 6);
        right(HEAD + ";act 1 1 to 1 100;act 0 1 to 1 100", 2);
    }
}
