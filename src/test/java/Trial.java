import java.util.StringJoiner;

/**
 * A new OneBarrel whose calls are counted and named, so that the test of an edge can tell which call was wrong, and
 * can't ask more of one object than the document promises.
 */
final class Trial {
    static final int NONE = -1;
    static final int MIN = Integer.MIN_VALUE;
    static final int MAX = Integer.MAX_VALUE;
    private static final int MOST_CALLS = 512;

    private final OneBarrel x = new OneBarrel();
    private int calls;
    private String latest = "new OneBarrel()";

    /** With tool 0 and its barrel 0. */
    static Trial gun() {
        Trial t = new Trial();
        t.tool(0);
        t.barrel(0);
        return t;
    }

    /** With a gun and, in this order, lookers of these margins. */
    static Trial gunAndLookers(int... margins) {
        Trial t = gun();
        for (int margin : margins) {
            t.looker(margin);
        }
        return t;
    }

    int calls() {
        return calls;
    }

    void due(int got, int want) {
        Edges.due(latest, got, want);
    }

    void due(boolean got, boolean want) {
        Edges.due(latest, got ? 1 : 0, want ? 1 : 0);
    }

    int tool(int state) {
        return told(x.tool(state), "tool", state);
    }

    boolean edge(int tool, int i, int v) {
        return told(x.edge(tool, i, v), "edge", tool, i, v);
    }

    int barrel(int tool) {
        return told(x.barrel(tool), "barrel", tool);
    }

    boolean rust(int barrel, int v) {
        return told(x.rust(barrel, v), "rust", barrel, v);
    }

    int shot(int barrel, int soft) {
        return told(x.shot(barrel, soft), "shot", barrel, soft);
    }

    int found() {
        return told(x.found(), "found");
    }

    boolean hair(int ball, int i, int v) {
        return told(x.hair(ball, i, v), "hair", ball, i, v);
    }

    int at(int what, int which, int i) {
        return told(x.at(what, which, i), "at", what, which, i);
    }

    int of(int which, int what) {
        return told(x.of(which, what), "of", which, what);
    }

    int feed(int a, int b, int c, int d, int e) {
        return told(x.feed(a, b, c, d, e), "feed", a, b, c, d, e);
    }

    boolean end(int n) {
        return told(x.end(n), "end", n);
    }

    int laws() {
        return told(x.laws(), "laws");
    }

    int judgement(int looker) {
        return told(x.judgement(looker), "judgement", looker);
    }

    int fault(int what) {
        return told(x.fault(what), "fault", what);
    }

    int looker(int margin) {
        return told(x.looker(margin), "looker", margin);
    }

    int slid(int looker, int a, int b, int what) {
        return told(x.slid(looker, a, b, what), "slid", looker, a, b, what);
    }

    int says(int looker, int a, int b, boolean told) {
        return told(x.says(looker, a, b, told), "says", looker, a, b, told);
    }

    int truth(int a, int b) {
        return told(x.truth(a, b), "truth", a, b);
    }

    int odds(int looker, int n, int truth, int what) {
        return told(x.odds(looker, n, truth, what), "odds", looker, n, truth, what);
    }

    int far(int looker, int n) {
        return told(x.far(looker, n), "far", looker, n);
    }

    int own(int looker, int a, int b, int c, int what) {
        return told(x.own(looker, a, b, c, what), "own", looker, a, b, c, what);
    }

    int list(int looker, int ball, int k) {
        return told(x.list(looker, ball, k), "list", looker, ball, k);
    }

    int pair(int a, int b, int hours) {
        return told(x.pair(a, b, hours), "pair", a, b, hours);
    }

    int counted(int looker, boolean told, int what) {
        return told(x.counted(looker, told, what), "counted", looker, told, what);
    }

    int round(int lookers, int what) {
        return told(x.round(lookers, what), "round", lookers, what);
    }

    int lean(int looker) {
        return told(x.lean(looker), "lean", looker);
    }

    boolean scene(int scene, int ball, boolean is) {
        return told(x.scene(scene, ball, is), "scene", scene, ball, is);
    }

    int joined(int looker, int what) {
        return told(x.joined(looker, what), "joined", looker, what);
    }

    int look(int what) {
        return told(x.look(what), "look", what);
    }

    /** Puts a text behind the tape. */
    void tape(String text) {
        int length = 0;
        for (int from = 0; from < text.length(); from += 20) {
            int[] w = TestTools.words(text, from);
            length = feed(w[0], w[1], w[2], w[3], w[4]);
        }
        if (text.length() % 20 != 0) {
            end(length - 20 + text.length() % 20);
        }
    }

    int laws(String text) {
        tape(text);
        int lines = laws();
        latest = "laws() of '" + text + "'";
        return lines;
    }

    int judgement(int looker, String text) {
        tape(text);
        int lines = judgement(looker);
        latest = "judgement(" + looker + ") of '" + text + "'";
        return lines;
    }

    /** The laws have no fault and this many lines. */
    void dueLaws(String text, int lines) {
        due(laws(text), lines);
        due(fault(0), 0);
    }

    /** The laws have this fault at this place. */
    void dueFault(String text, int fault, int place) {
        due(laws(text), NONE);
        dueFault(text, fault, place, "laws");
    }

    void dueJudgement(int looker, String text, int lines) {
        due(judgement(looker, text), lines);
        due(fault(0), 0);
    }

    void dueJudgementFault(int looker, String text, int fault, int place) {
        due(judgement(looker, text), NONE);
        dueFault(text, fault, place, "judgement");
    }

    private void dueFault(String text, int fault, int place, String kind) {
        int gotFault = fault(0);
        latest = "fault(0) of the " + kind + " '" + text + "'";
        due(gotFault, fault);
        int gotPlace = fault(1);
        latest = "fault(1) of the " + kind + " '" + text + "'";
        due(gotPlace, place);
    }

    /** A ball that barrel 0 shoots by these laws. */
    int ball(String laws) {
        if (laws(laws) < 0) {
            throw new IllegalStateException("no laws: " + laws);
        }
        return shot(0, 0);
    }

    /** A found ball whose hairs 0 .. n - 1 are missing, all others 0. */
    int foundLacking(int n) {
        int ball = found();
        lack(ball, n);
        return ball;
    }

    /** Makes hairs 0 .. n - 1 of a ball missing. */
    void lack(int ball, int n) {
        for (int i = 0; i < n; i++) {
            hair(ball, i, NONE);
        }
    }

    /** All 32 hairs of a tool's edge (what 0), a barrel (1) or a ball (2). */
    void dueRow(int what, int which, int... heights) {
        for (int i = 0; i < 32; i++) {
            due(at(what, which, i), heights[i]);
        }
    }

    private int told(int answer, String name, Object... arguments) {
        calls++;
        if (calls > MOST_CALLS) {
            throw new IllegalStateException("the test asks more than 512 calls of one object");
        }
        StringJoiner joined = new StringJoiner(", ", name + "(", ")");
        for (Object argument : arguments) {
            joined.add(String.valueOf(argument));
        }
        latest = joined.toString();
        return answer;
    }

    private boolean told(boolean answer, String name, Object... arguments) {
        told(0, name, arguments);
        return answer;
    }
}
