import java.util.ArrayList;
import java.util.HashMap;
import java.util.HashSet;
import java.util.List;
import java.util.Map;
import java.util.Set;
import java.util.regex.Matcher;
import java.util.regex.Pattern;

/** Drawn texts, most of them with a change that may be an error, beside a second parser of section 5. */
public final class ParseModelTest {
    private static final int TEXTS = 60000;
    private static final Pattern TOKEN = Pattern.compile("[a-z]+|[0-9]+|[^ ]");
    private static final String[] WORDS = {"chain", "states", "horizon", "seed", "budget", "act", "uses", "to", "rule",
        "start", ";", "-", "0", "1", "2", "3", "5", "6", "7", "9", "10", "11", "40", "50", "60", "99", "100", "101",
        "999", "1000", "9999", "10000", "30010", "30011", "00001", "000001", "abcdefgh", "abcdefghi", "T", "\u00ff",
        "."};

    /** Thrown at an error of the text. */
    private static final class Wrong extends RuntimeException {
        private static final long serialVersionUID = 1;
        final int code;
        final int position;

        Wrong(int code, int position) {
            this.code = code;
            this.position = position;
        }
    }

    private static long dice = 62;

    private final List<String> tokens = new ArrayList<>();
    private final List<Integer> positions = new ArrayList<>();
    private int k;
    private int states;
    private int budgets;
    private int total;
    private final Map<Integer, Integer> actions = new HashMap<>();
    private final Set<Integer> ruled = new HashSet<>();

    private ParseModelTest(String text) {
        Matcher found = TOKEN.matcher(text);
        while (found.find()) {
            tokens.add(found.group());
            positions.add(found.start());
        }
        tokens.add("");
        positions.add(text.length());
    }

    public static void main(String[] args) {
        int[] seen = new int[7];
        DecisionChain x = new DecisionChain();
        for (int n = 0; n < TEXTS; n++) {
            String text = changed(drawText());
            int code = 0;
            int position = -1;
            String answer;
            ParseModelTest parser = new ParseModelTest(text);
            try {
                parser.parse();
                answer = String.valueOf(parser.total);
            } catch (Wrong e) {
                code = e.code;
                position = e.position;
                answer = "throws.IllegalArgumentException";
            }
            int dueCode = code;
            int duePosition = position;
            seen[code]++;
            Check.due(text, answer, () -> Check.load(x, text));
            Check.due(text + ": parseError()", dueCode, x::parseError);
            Check.due(text + ": errorPosition()", duePosition, x::errorPosition);
        }
        for (int code = 0; code < seen.length; code++) {
            int which = code;
            Check.due("texts with the code " + code, true, () -> seen[which] > 100);
        }
        Check.finish();
    }

    // ---- the second parser

    private boolean isNumber() {
        return tokens.get(k).matches("[0-9]{1,5}");
    }

    private Wrong wrong(int code) {
        return new Wrong(code, positions.get(k));
    }

    private void word(String word) {
        if (!tokens.get(k).equals(word)) {
            throw wrong(1);
        }
        k++;
    }

    private int peek(int least, int most) {
        if (!isNumber()) {
            throw wrong(1);
        }
        int number = Integer.parseInt(tokens.get(k));
        if (number < least || number > most) {
            throw wrong(2);
        }
        return number;
    }

    private int number(int least, int most) {
        int number = peek(least, most);
        k++;
        return number;
    }

    private int actionsOf(int state) {
        return actions.getOrDefault(state, 0);
    }

    private void parse() {
        word("chain");
        word("states");
        states = number(1, 6);
        word("horizon");
        number(1, 5);
        word("seed");
        number(0, 30010);
        while (!tokens.get(k).isEmpty()) {
            word(";");
            switch (tokens.get(k)) {
                case "budget" -> budget();
                case "act" -> act();
                case "rule" -> rule();
                case "start" -> {
                    k++;
                    number(0, states - 1);
                }
                default -> throw wrong(1);
            }
        }
        for (int state = 0; state < states; state++) {
            if (actionsOf(state) == 0) {
                throw wrong(6);
            }
        }
    }

    private void budget() {
        if (budgets == 3) {
            throw wrong(4);
        }
        k++;
        number(0, 9999);
        budgets++;
    }

    private void act() {
        k++;
        int state = peek(0, states - 1);
        if (actionsOf(state) == 3) {
            throw wrong(4);
        }
        k++;
        if (tokens.get(k).equals("-")) {
            k++;
        }
        number(0, 999);
        Set<Integer> used = new HashSet<>();
        while (tokens.get(k).equals("uses")) {
            k++;
            if (!used.add(peek(0, budgets - 1))) {
                throw wrong(3);
            }
            k++;
            number(1, 99);
        }
        Set<Integer> told = new HashSet<>();
        int sum = 0;
        while (tokens.get(k).equals("to")) {
            k++;
            if (!told.add(peek(0, states - 1))) {
                throw wrong(3);
            }
            k++;
            sum += number(1, 100 - sum);
        }
        behind(sum == 100);
        actions.merge(state, 1, Integer::sum);
        total++;
    }

    private void rule() {
        k++;
        int state = peek(0, states - 1);
        if (!ruled.add(state)) {
            throw wrong(3);
        }
        k++;
        int sum = 0;
        int count = 0;
        do {
            if (count >= actionsOf(state)) {
                throw wrong(1);
            }
            sum += number(0, 10 - sum);
            count++;
        } while (isNumber());
        behind(sum == 10);
    }

    private void behind(boolean full) {
        String token = tokens.get(k);
        if (!token.isEmpty() && !token.equals(";")) {
            throw wrong(1);
        }
        if (!full) {
            throw wrong(5);
        }
    }

    // ---- drawn texts

    private static int roll(int bound) {
        dice = dice * 6364136223846793005L + 1442695040888963407L;
        return (int) ((dice >>> 33) % bound);
    }

    private static List<String> drawText() {
        StringBuilder all = new StringBuilder();
        int states = 1 + roll(3);
        all.append("chain states ").append(states).append(" horizon ").append(1 + roll(5)).append(" seed ")
                .append(roll(30011));
        int budgets = roll(4);
        for (int k = 0; k < budgets; k++) {
            all.append(" ; budget ").append(roll(10000));
        }
        int count = states + roll(2 * states + 1);
        for (int k = 0; k < count; k++) {
            all.append(" ; act ").append(k % states).append(roll(3) == 0 ? " - " : " ").append(roll(1000));
            for (int b = 0; b < budgets; b++) {
                all.append(roll(2) == 0 ? " uses " + b + " " + (1 + roll(99)) : "");
            }
            int percent = states == 1 ? 100 : 1 + roll(100);
            all.append(" to ").append(k % states).append(' ').append(percent);
            all.append(percent < 100 ? " to " + (k + 1) % states + " " + (100 - percent) : "");
        }
        for (int state = 0; state < states; state++) {
            if (roll(2) == 0) {
                int weight = count / states < 2 ? 10 : roll(11);
                all.append(" ; rule ").append(state).append(' ').append(weight);
                all.append(weight < 10 ? " " + (10 - weight) : "");
            }
        }
        all.append(roll(3) == 0 ? " ; start " + roll(states) : "");
        return new ArrayList<>(List.of(all.toString().split(" ")));
    }

    /** Says once more what stands from the word before an index up to the next such word or semicolon. */
    private static void repeat(List<String> tokens, int at, String word) {
        int from = tokens.subList(0, at + 1).lastIndexOf(word);
        if (from < 0) {
            return;
        }
        int behind = from + 1;
        while (behind < tokens.size() && !tokens.get(behind).equals(word) && !tokens.get(behind).equals(";")) {
            behind++;
        }
        tokens.addAll(behind, List.copyOf(tokens.subList(from, behind)));
    }

    /** Changes some tokens, and joins them with the blanks that they need, or more, or fewer. */
    private static String changed(List<String> tokens) {
        for (int changes = roll(3); changes > 0; changes--) {
            int at = roll(tokens.size());
            switch (roll(7)) {
                case 0 -> tokens.remove(at);
                case 1 -> tokens.add(at, WORDS[roll(WORDS.length)]);
                case 2 -> tokens.set(at, WORDS[roll(WORDS.length)]);
                case 3 -> tokens.subList(at, tokens.size()).clear();
                case 4 -> repeat(tokens, at, ";");
                case 5 -> repeat(tokens, at, roll(2) == 0 ? "uses" : "to");
                default -> tokens.add(at, tokens.get(roll(tokens.size())));
            }
            if (tokens.isEmpty()) {
                tokens.add(";");
            }
        }
        StringBuilder all = new StringBuilder();
        boolean dense = roll(2) == 0;
        for (String token : tokens) {
            boolean sign = token.equals(";") || token.equals("-") || all.toString().endsWith(";");
            all.append(dense && sign ? "" : roll(30) == 0 ? roll(3) == 0 ? "" : "   " : " ").append(token);
        }
        all.append(roll(4) == 0 ? "  " : "");
        return all.length() > 1200 ? all.substring(0, 1200) : all.toString();
    }
}
