/** What the tests share: comparing answers, and loading texts. */
final class Check {
    /** A call that may throw. */
    interface Call {
        Object answer();
    }

    private static int wrong = 0;

    private Check() {
    }

    /** The answer of a call as a text: what it returns, or "throws." and the name of what it throws. */
    static String answerOf(Call call) {
        try {
            return String.valueOf(call.answer());
        } catch (RuntimeException e) {
            return "throws." + e.getClass().getSimpleName();
        }
    }

    static void due(String what, Object want, Call call) {
        String got = answerOf(call);
        if (!got.equals(String.valueOf(want))) {
            wrong++;
            System.out.println(what + " answered " + got + ", due is " + want);
        }
    }

    static void noState(String what, Call call) {
        due(what, "throws.IllegalStateException", call);
    }

    static void noIndex(String what, Call call) {
        due(what, "throws.IndexOutOfBoundsException", call);
    }

    static void noArgument(String what, Call call) {
        due(what, "throws.IllegalArgumentException", call);
    }

    /** Appends a text, with blanks up to a multiple of twenty bytes. */
    static void append(DecisionChain x, String text) {
        StringBuilder all = new StringBuilder(text);
        while (all.length() % 20 != 0) {
            all.append(' ');
        }
        for (int i = 0; i < all.length(); i += 20) {
            x.append(four(all, i), four(all, i + 4), four(all, i + 8), four(all, i + 12), four(all, i + 16));
        }
    }

    private static int four(CharSequence text, int i) {
        return (text.charAt(i) & 255) << 24 | (text.charAt(i + 1) & 255) << 16
                | (text.charAt(i + 2) & 255) << 8 | text.charAt(i + 3) & 255;
    }

    static int load(DecisionChain x, String text) {
        append(x, text);
        return x.load(text.length());
    }

    static DecisionChain loaded(String text) {
        DecisionChain x = new DecisionChain();
        load(x, text);
        return x;
    }

    /** Reports at time t, and gives the bytes as a text. */
    static String report(DecisionChain x, int t) {
        return reported(x, x.report(t));
    }

    static String reported(DecisionChain x, int length) {
        StringBuilder all = new StringBuilder();
        for (int i = 0; i < length; i++) {
            all.append((char) x.reportByte(i));
        }
        return all.toString();
    }

    static void finish() {
        System.out.println(wrong == 0 ? "all answers are as due" : wrong + " answers are wrong");
        if (wrong > 0) {
            System.exit(1);
        }
    }
}
