/** What all tests use: answers that are due, and texts put onto the tape. */
public final class TestTools {
    private static int wrong = 0;
    private static int checked = 0;

    private TestTools() {
    }

    public static void due(String call, long got, long want) {
        checked++;
        if (got != want) {
            wrong++;
            System.out.println(call + " answered " + got + ", due is " + want);
        }
    }

    public static void due(String call, boolean got, boolean want) {
        due(call, got ? 1 : 0, want ? 1 : 0);
    }

    /** How many answers were looked at so far. */
    public static int checked() {
        return checked;
    }

    /** Ends the test: with exit code 1 if an answer was not as due. */
    public static void close() {
        System.out.println(wrong == 0 ? checked + " answers are as due" : wrong + " answers are not as due");
        if (wrong != 0) {
            System.exit(1);
        }
    }

    /** The five numbers that feed the twenty bytes from a place on (blanks behind the end). */
    public static int[] words(String text, int from) {
        int[] words = new int[5];
        for (int n = 0; n < 20; n++) {
            int c = from + n < text.length() ? text.charAt(from + n) : ' ';
            words[n / 4] = words[n / 4] << 8 | c & 255;
        }
        return words;
    }

    public static void feed(OneBarrel x, String text) {
        for (int from = 0; from < text.length(); from += 20) {
            int[] w = words(text, from);
            x.feed(w[0], w[1], w[2], w[3], w[4]);
        }
        x.end(text.length());
    }

    public static int laws(OneBarrel x, String text) {
        feed(x, text);
        return x.laws();
    }

    public static int judgement(OneBarrel x, int looker, String text) {
        feed(x, text);
        return x.judgement(looker);
    }

    /** A found ball with these heights; hairs behind them stay 0. */
    public static int ball(OneBarrel x, int... heights) {
        int ball = x.found();
        hairs(x, ball, heights);
        return ball;
    }

    public static void hairs(OneBarrel x, int ball, int... heights) {
        for (int i = 0; i < heights.length; i++) {
            x.hair(ball, i, heights[i]);
        }
    }
}
