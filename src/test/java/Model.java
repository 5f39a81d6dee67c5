import java.util.ArrayList;
import java.util.Comparator;
import java.util.List;
import java.util.Map;
import java.util.function.BiFunction;
import java.util.function.Function;

/**
 * The document once more, told as plainly as can be and without any thought of speed or room, so that random runs of
 * OneBarrel have something to be held against. It shares no code with it and keeps nothing that can be asked anew.
 */
public final class Model {
    static final int NONE = -1;

    static final class Fault extends RuntimeException {
        private static final long serialVersionUID = 1L;
        final int fault;
        final int place;

        Fault(int fault, int place) {
            this.fault = fault;
            this.place = place;
        }
    }

    record Token(String text, int place) { }

    interface Num extends Function<Map<String, Integer>, Integer> { }

    interface Bool extends Function<Map<String, Integer>, Boolean> { }

    record Line(String head, Num height, Bool when) { }

    static final class Tool {
        int[] row = new int[32];
        int state;
        int cuts;
    }

    static final class Barrel {
        int tool;
        int nth;
        int[] row;
        int state;
        int shots;
        int rust;
    }

    static final class Ball {
        int barrel = NONE;
        int nth = NONE;
        int soft = NONE;
        int[] row = new int[32];
    }

    static final class Looker {
        int margin;
        List<Line> lines = new ArrayList<>();
    }

    final List<Tool> tools = new ArrayList<>();
    final List<Barrel> barrels = new ArrayList<>();
    final List<Ball> balls = new ArrayList<>();
    final List<Looker> lookers = new ArrayList<>();
    final List<int[]> pairs = new ArrayList<>();
    final boolean[][] scenes = new boolean[8][40];
    List<Line> laws = new ArrayList<>();
    String tape = "";
    int fault = 0;
    int place = NONE;

    // ---- reading

    static final class Parser {
        final List<Token> tokens = new ArrayList<>();
        final boolean laws;
        int p = 0;

        Parser(String s, boolean laws) {
            this.laws = laws;
            int i = 0;
            while (i < s.length()) {
                char c = s.charAt(i);
                if (c == ' ' || c == '\n') {
                    i++;
                    continue;
                }
                int j = i + 1;
                String kind = kind(c);
                while (!kind.isEmpty() && j < s.length() && kind(s.charAt(j)).equals(kind)) {
                    j++;
                }
                tokens.add(new Token(s.substring(i, j), i));
                i = j;
            }
            tokens.add(new Token("", s.length()));
        }

        static String kind(char c) {
            if (c < 128 && Character.isLetter(c)) {
                return "letter";
            }
            return c < 128 && Character.isDigit(c) ? "digit" : "";
        }

        String peek() {
            return tokens.get(p).text();
        }

        int here() {
            return tokens.get(p).place();
        }

        boolean take(String s) {
            if (peek().equals(s)) {
                p++;
                return true;
            }
            return false;
        }

        void need(String s) {
            if (!take(s)) {
                throw new Fault(1, here());
            }
        }

        List<Line> all() {
            List<Line> lines = new ArrayList<>();
            List<String> heads = laws ? List.of("cut", "wear", "take") : List.of("same", "not");
            while (!peek().isEmpty()) {
                String head = peek();
                if (!heads.contains(head)) {
                    throw new Fault(1, here());
                }
                if (lines.size() == 16) {
                    throw new Fault(3, here());
                }
                p++;
                Num height = laws ? e() : null;
                Bool when = f -> true;
                if (!laws || take("when")) {
                    when = b(0);
                }
                need(";");
                lines.add(new Line(head, height, when));
            }
            return lines;
        }

        Bool b(int open) {
            Bool left = a(open);
            while (take("or")) {
                Bool l = left;
                Bool r = a(open);
                left = f -> l.apply(f) || r.apply(f);
            }
            return left;
        }

        Bool a(int open) {
            Bool left = c(open);
            while (take("and")) {
                Bool l = left;
                Bool r = c(open);
                left = f -> l.apply(f) && r.apply(f);
            }
            return left;
        }

        Bool c(int open) {
            if (peek().equals("no") || peek().equals("(")) {
                if (open == 8) {
                    throw new Fault(3, here());
                }
                if (take("no")) {
                    Bool inner = c(open + 1);
                    return f -> !inner.apply(f);
                }
                p++;
                Bool inner = b(open + 1);
                need(")");
                return inner;
            }
            Num l = e();
            String sign = peek();
            if (!List.of("<", "=", ">").contains(sign)) {
                throw new Fault(1, here());
            }
            p++;
            Num r = e();
            return f -> {
                int x = l.apply(f);
                int y = r.apply(f);
                return sign.equals("<") ? x < y : sign.equals("=") ? x == y : x > y;
            };
        }

        Num e() {
            Num left = t();
            while (peek().equals("+") || peek().equals("-")) {
                boolean plus = peek().equals("+");
                p++;
                Num l = left;
                Num r = t();
                left = f -> plus ? l.apply(f) + r.apply(f) : l.apply(f) - r.apply(f);
            }
            return left;
        }

        Num t() {
            Num left = u();
            while (peek().equals("*") || peek().equals("/")) {
                Num l = left;
                if (take("*")) {
                    Num r = u();
                    left = f -> l.apply(f) * r.apply(f);
                } else {
                    p++;
                    if (!peek().matches("[0-9]{1,4}")) {
                        throw new Fault(1, here());
                    }
                    int part = Integer.parseInt(peek());
                    if (part == 0) {
                        throw new Fault(2, here());
                    }
                    p++;
                    left = f -> l.apply(f) / part;
                }
            }
            return left;
        }

        Num u() {
            String s = peek();
            List<String> facts = laws
                    ? List.of("at", "high", "left", "right", "draw", "shots", "rust", "soft")
                    : List.of("best", "longest", "slide", "pieces", "lack", "told");
            if (s.matches("[0-9]{1,4}")) {
                p++;
                int n = Integer.parseInt(s);
                return f -> n;
            }
            if (facts.contains(s)) {
                p++;
                return f -> f.get(s);
            }
            throw new Fault(1, here());
        }
    }

    int read(boolean asLaws, java.util.function.Consumer<List<Line>> into) {
        String text = tape;
        tape = "";
        fault = 0;
        place = NONE;
        try {
            List<Line> lines = new Parser(text, asLaws).all();
            into.accept(lines);
            return lines.size();
        } catch (Fault f) {
            fault = f.fault;
            place = f.place;
            return NONE;
        }
    }

    // ---- rows

    int change(int[] row, String law, int state, int shots, int rust, int soft) {
        int[] old = row.clone();
        for (int i = 0; i < 32; i++) {
            state = state * 1664525 + 1013904223;
            Map<String, Integer> f = Map.of("at", i, "high", old[i], "left", old[(i + 31) % 32],
                    "right", old[(i + 1) % 32], "draw", (state >> 28) & 15, "shots", shots, "rust", rust, "soft", soft);
            for (Line line : laws) {
                if (line.head().equals(law) && line.when().apply(f)) {
                    int v = line.height().apply(f);
                    row[i] = v < 0 ? 0 : v > 63 ? 63 : v;
                    break;
                }
            }
        }
        return state;
    }

    static boolean runs(Looker l, Ball a, Ball b, int i, int s) {
        int x = a.row[i];
        int y = b.row[(i + s) % 32];
        return x >= 0 && y >= 0 && Math.abs(x - y) <= l.margin;
    }

    static int many(Looker l, Ball a, Ball b, int s) {
        int n = 0;
        for (int i = 0; i < 32; i++) {
            n += runs(l, a, b, i, s) ? 1 : 0;
        }
        return n;
    }

    static int slide(Looker l, Ball a, Ball b) {
        int best = 0;
        int most = -1;
        for (int s = 31; s >= 0; s--) {
            int many = many(l, a, b, s);
            if (many >= most) {
                most = many;
                best = s;
            }
        }
        return best;
    }

    static int longest(Looker l, Ball a, Ball b) {
        int s = slide(l, a, b);
        int most = 0;
        for (int from = 0; from < 32; from++) {
            int n = 0;
            while (n < 32 && runs(l, a, b, (from + n) % 32, s)) {
                n++;
            }
            most = Math.max(most, n);
        }
        return most;
    }

    /** From the last hair back to the first: the most from hair i on, at slide s there, with c changes left. */
    static int pieces(Looker l, Ball a, Ball b) {
        int[][][] most = new int[33][4][32];
        int all = 0;
        for (int i = 31; i >= 0; i--) {
            for (int c = 0; c < 4; c++) {
                for (int s = 0; s < 32; s++) {
                    int on = most[i + 1][c][s];
                    if (c > 0) {
                        on = Math.max(on, most[i + 1][c - 1][(s + 1) % 32]);
                        on = Math.max(on, most[i + 1][c - 1][(s + 31) % 32]);
                    }
                    most[i][c][s] = on + (runs(l, a, b, i, s) ? 1 : 0);
                    all = Math.max(all, most[i][c][s]);
                }
            }
        }
        return all;
    }

    /** The same by trying every way to change the slide at most three times, with sums up to each hair. */
    static int piecesByEveryWay(Looker l, Ball a, Ball b) {
        int[][] upTo = new int[32][33];
        for (int s = 0; s < 32; s++) {
            for (int i = 0; i < 32; i++) {
                upTo[s][i + 1] = upTo[s][i] + (runs(l, a, b, i, s) ? 1 : 0);
            }
        }
        int most = 0;
        for (int s = 0; s < 32; s++) {
            most = Math.max(most, everyWay(upTo, s, 0, 3));
        }
        return most;
    }

    private static int everyWay(int[][] upTo, int s, int from, int left) {
        int most = upTo[s][32] - upTo[s][from];
        for (int cut = from + 1; cut < 32 && left > 0; cut++) {
            int here = upTo[s][cut] - upTo[s][from];
            most = Math.max(most, here + everyWay(upTo, (s + 1) % 32, cut, left - 1));
            most = Math.max(most, here + everyWay(upTo, (s + 31) % 32, cut, left - 1));
        }
        return most;
    }

    static int missing(Ball a) {
        int n = 0;
        for (int v : a.row) {
            n += v < 0 ? 1 : 0;
        }
        return n;
    }

    static int saying(Looker l, Ball a, Ball b, boolean told) {
        boolean[] pieced = {false};
        Map<String, Integer> f = new java.util.HashMap<>() {
            private static final long serialVersionUID = 1L;

            @Override
            public Integer get(Object key) {
                if (key.equals("pieces") && !pieced[0]) {
                    pieced[0] = true;
                    put("pieces", pieces(l, a, b));
                }
                return super.get(key);
            }
        };
        int s = slide(l, a, b);
        f.put("best", many(l, a, b, s));
        f.put("slide", s);
        f.put("longest", longest(l, a, b));
        f.put("lack", missing(a) + missing(b));
        f.put("told", told ? 1 : 0);
        for (Line line : l.lines) {
            if (line.when().apply(f)) {
                return line.head().equals("same") ? 1 : 0;
            }
        }
        return 2;
    }

    static boolean in(int n, List<?> list) {
        return n >= 0 && n < list.size();
    }

    // ---- the face

    public int tool(int state) {
        if (tools.size() == 6) {
            return NONE;
        }
        Tool t = new Tool();
        t.state = state;
        java.util.Arrays.fill(t.row, 32);
        tools.add(t);
        return tools.size() - 1;
    }

    public boolean edge(int tool, int i, int v) {
        if (!in(tool, tools) || i < 0 || i > 31 || v < 0 || v > 63) {
            return false;
        }
        tools.get(tool).row[i] = v;
        return true;
    }

    public int barrel(int tool) {
        if (!in(tool, tools) || barrels.size() == 16) {
            return NONE;
        }
        Tool t = tools.get(tool);
        Barrel b = new Barrel();
        b.tool = tool;
        b.nth = t.cuts;
        b.row = t.row.clone();
        b.state = t.state;
        barrels.add(b);
        t.cuts++;
        t.state = change(t.row, "cut", t.state, t.cuts, 0, 0);
        return barrels.size() - 1;
    }

    public boolean rust(int barrel, int v) {
        if (!in(barrel, barrels) || v < 0 || v > 99) {
            return false;
        }
        barrels.get(barrel).rust = v;
        return true;
    }

    public int shot(int barrel, int soft) {
        if (!in(barrel, barrels) || soft < 0 || soft > 9 || balls.size() == 40) {
            return NONE;
        }
        Barrel b = barrels.get(barrel);
        Ball ball = new Ball();
        ball.barrel = barrel;
        ball.nth = b.shots;
        ball.soft = soft;
        ball.row = b.row.clone();
        b.state = change(ball.row, "take", b.state, b.shots, b.rust, soft);
        b.state = change(b.row, "wear", b.state, b.shots, b.rust, soft);
        b.shots++;
        balls.add(ball);
        return balls.size() - 1;
    }

    public int found() {
        if (balls.size() == 40) {
            return NONE;
        }
        balls.add(new Ball());
        return balls.size() - 1;
    }

    public boolean hair(int ball, int i, int v) {
        if (!in(ball, balls) || i < 0 || i > 31 || v < -1 || v > 63) {
            return false;
        }
        balls.get(ball).row[i] = v;
        return true;
    }

    public int at(int what, int which, int i) {
        List<?> list = what == 0 ? tools : what == 1 ? barrels : what == 2 ? balls : List.of();
        if (!in(which, list) || i < 0 || i > 31) {
            return -2;
        }
        return (what == 0 ? tools.get(which).row : what == 1 ? barrels.get(which).row : balls.get(which).row)[i];
    }

    public int of(int which, int what) {
        if (what >= 0 && what <= 3 && in(which, balls)) {
            Ball b = balls.get(which);
            return List.of(b.barrel, b.nth, b.soft, missing(b)).get(what);
        }
        if (what >= 10 && what <= 13 && in(which, barrels)) {
            Barrel b = barrels.get(which);
            return List.of(b.tool, b.nth, b.shots, b.rust).get(what - 10);
        }
        return -2;
    }

    public int feed(int a, int b, int c, int d, int e) {
        if (tape.length() > 580) {
            return NONE;
        }
        for (int n : new int[] {a, b, c, d, e}) {
            tape += "" + (char) (n >>> 24) + (char) (n >>> 16 & 255) + (char) (n >>> 8 & 255) + (char) (n & 255);
        }
        return tape.length();
    }

    public boolean end(int n) {
        if (n < 0 || n > tape.length()) {
            return false;
        }
        tape = tape.substring(0, n);
        return true;
    }

    public int laws() {
        return read(true, lines -> laws = lines);
    }

    public int judgement(int looker) {
        if (!in(looker, lookers)) {
            fault = 0;
            place = NONE;
            tape = "";
            return NONE;
        }
        return read(false, lines -> lookers.get(looker).lines = lines);
    }

    public int fault(int what) {
        return what == 0 ? fault : what == 1 ? place : NONE;
    }

    public int looker(int margin) {
        if (margin < 0 || margin > 15 || lookers.size() == 6) {
            return NONE;
        }
        Looker l = new Looker();
        l.margin = margin;
        lookers.add(l);
        return lookers.size() - 1;
    }

    public int slid(int looker, int a, int b, int what) {
        if (!in(looker, lookers) || !in(a, balls) || !in(b, balls)) {
            return NONE;
        }
        Looker l = lookers.get(looker);
        Ball x = balls.get(a);
        Ball y = balls.get(b);
        if (what >= 32 && what < 64) {
            return many(l, x, y, what - 32);
        }
        return what == 0 ? many(l, x, y, slide(l, x, y)) : what == 1 ? slide(l, x, y) : what == 2 ? longest(l, x, y)
                : what == 3 ? pieces(l, x, y) : what == 4 ? missing(x) + missing(y) : NONE;
    }

    public int says(int looker, int a, int b, boolean told) {
        if (!in(looker, lookers) || !in(a, balls) || !in(b, balls)) {
            return NONE;
        }
        return saying(lookers.get(looker), balls.get(a), balls.get(b), told);
    }

    public int truth(int a, int b) {
        if (!in(a, balls) || !in(b, balls) || a == b) {
            return NONE;
        }
        int x = balls.get(a).barrel;
        int y = balls.get(b).barrel;
        if (x == NONE || y == NONE) {
            return NONE;
        }
        return x == y ? 0 : barrels.get(x).tool == barrels.get(y).tool ? 1 : 2;
    }

    public int odds(int looker, int n, int truth, int what) {
        if (!in(looker, lookers) || n < 0 || n > 32 || truth < 0 || truth > 2 || what < 0 || what > 1) {
            return NONE;
        }
        int[] counts = new int[2];
        for (int a = 0; a < balls.size(); a++) {
            for (int b = a + 1; b < balls.size(); b++) {
                if (truth(a, b) == truth) {
                    counts[1]++;
                    counts[0] += longest(lookers.get(looker), balls.get(a), balls.get(b)) >= n ? 1 : 0;
                }
            }
        }
        return counts[what];
    }

    public int far(int looker, int n) {
        if (!in(looker, lookers) || n < 0 || n > 33) {
            return NONE;
        }
        for (int gap = 1; gap < 40; gap++) {
            for (int a = 0; a < balls.size(); a++) {
                for (int b = a + 1; b < balls.size(); b++) {
                    if (truth(a, b) == 0 && balls.get(b).nth - balls.get(a).nth == gap
                            && longest(lookers.get(looker), balls.get(a), balls.get(b)) < n) {
                        return gap;
                    }
                }
            }
        }
        return NONE;
    }

    public int own(int looker, int a, int b, int c, int what) {
        if (!in(looker, lookers) || !in(a, balls) || !in(b, balls) || !in(c, balls) || what < 0 || what > 1) {
            return 0;
        }
        Looker l = lookers.get(looker);
        Ball x = balls.get(a);
        Ball y = balls.get(b);
        Ball z = balls.get(c);
        int set = 0;
        for (int i = 0; i < 32; i++) {
            if (runs(l, x, y, i, slide(l, x, y)) && runs(l, x, z, i, slide(l, x, z)) == (what == 1)) {
                set += 1 << i;
            }
        }
        return set;
    }

    public int list(int looker, int ball, int k) {
        if (!in(looker, lookers) || !in(ball, balls)) {
            return NONE;
        }
        Looker l = lookers.get(looker);
        Ball x = balls.get(ball);
        List<Integer> others = new ArrayList<>();
        for (int n = 0; n < balls.size(); n++) {
            if (n != ball) {
                others.add(n);
            }
        }
        others.sort(Comparator.<Integer>comparingInt(n -> -many(l, x, balls.get(n), slide(l, x, balls.get(n))))
                .thenComparingInt(n -> -longest(l, x, balls.get(n))).thenComparingInt(n -> n));
        return in(k, others) ? others.get(k) : NONE;
    }

    public int pair(int a, int b, int hours) {
        if (!in(a, balls) || !in(b, balls) || a == b || hours < 1 || hours > 99 || pairs.size() == 10) {
            return NONE;
        }
        pairs.add(new int[] {a, b, hours});
        return pairs.size() - 1;
    }

    int grade(int looker, int[] pair, boolean told) {
        int truth = truth(pair[0], pair[1]);
        int said = says(looker, pair[0], pair[1], told);
        if (truth == NONE) {
            return NONE;
        }
        return said == 2 ? 2 : said == (truth == 0 ? 1 : 0) ? 0 : 1;
    }

    public int counted(int looker, boolean told, int what) {
        if (!in(looker, lookers) || what < 0 || what > 2) {
            return NONE;
        }
        return (int) pairs.stream().filter(p -> grade(looker, p, told) == what).count();
    }

    public int round(int set, int what) {
        if (set <= 0 || set >= 1 << lookers.size() || what < 0 || what > 1) {
            return NONE;
        }
        int[] wrong = new int[lookers.size()];
        for (int l = 0; l < lookers.size(); l++) {
            for (int k = 0; k < pairs.size(); k++) {
                wrong[l] |= grade(l, pairs.get(k), false) == 1 ? 1 << k : 0;
            }
        }
        List<int[]> found = new ArrayList<>();
        for (int p = 1; p < 1 << pairs.size(); p++) {
            boolean all = true;
            for (int l = 0; l < lookers.size(); l++) {
                all &= (set >> l & 1) == 0 || (wrong[l] & p) != 0;
            }
            if (all) {
                int hours = 0;
                for (int k = 0; k < pairs.size(); k++) {
                    hours += (p >> k & 1) * pairs.get(k)[2];
                }
                found.add(new int[] {p, hours});
            }
        }
        return found.stream().min(Comparator.<int[]>comparingInt(x -> x[1])
                .thenComparingInt(x -> Integer.bitCount(x[0])).thenComparingInt(x -> x[0]))
                .map(x -> x[what]).orElse(NONE);
    }

    public int lean(int looker) {
        if (!in(looker, lookers)) {
            return NONE;
        }
        return (int) pairs.stream()
                .filter(p -> says(looker, p[0], p[1], true) != says(looker, p[0], p[1], false)).count();
    }

    public boolean scene(int scene, int ball, boolean is) {
        if (scene < 0 || scene > 7 || !in(ball, balls) || scenes[scene][ball] == is) {
            return false;
        }
        scenes[scene][ball] = is;
        return true;
    }

    boolean inhabited(int scene) {
        for (boolean is : scenes[scene]) {
            if (is) {
                return true;
            }
        }
        return false;
    }

    public int joined(int looker, int what) {
        if (!in(looker, lookers)) {
            return NONE;
        }
        Looker l = lookers.get(looker);
        boolean[][] linked = new boolean[8][8];
        int[] weakest = {NONE, NONE};
        for (int i = 0; i < 8; i++) {
            linked[i][i] = true;
            for (int j = i + 1; j < 8; j++) {
                int best = NONE;
                for (int a = 0; a < balls.size(); a++) {
                    for (int b = 0; b < balls.size(); b++) {
                        if (scenes[i][a] && scenes[j][b] && says(looker, a, b, false) == 1) {
                            best = Math.max(best, longest(l, balls.get(a), balls.get(b)));
                        }
                    }
                }
                linked[i][j] = best >= 0;
                linked[j][i] = best >= 0;
                if (best >= 0 && (weakest[1] == NONE || best < weakest[1])) {
                    weakest = new int[] {8 * i + j, best};
                }
            }
        }
        BiFunction<Integer, Integer, Boolean> path = (from, to) -> reaches(linked, from, to, new boolean[8]);
        if (what == 0) {
            int groups = 0;
            for (int i = 0; i < 8; i++) {
                boolean first = inhabited(i);
                for (int j = 0; j < i; j++) {
                    first &= !path.apply(j, i);
                }
                groups += first ? 1 : 0;
            }
            return groups;
        }
        if (what == 1 || what == 2) {
            return weakest[what - 1];
        }
        if (what < 10 || what > 17 || !inhabited(what - 10)) {
            return NONE;
        }
        int least = 0;
        while (!path.apply(least, what - 10)) {
            least++;
        }
        return least;
    }

    static boolean reaches(boolean[][] linked, int from, int to, boolean[] seen) {
        if (from == to) {
            return true;
        }
        seen[from] = true;
        for (int n = 0; n < 8; n++) {
            if (!seen[n] && linked[from][n] && reaches(linked, n, to, seen)) {
                return true;
            }
        }
        return false;
    }

    public int look(int what) {
        int found = (int) balls.stream().filter(b -> b.barrel == NONE).count();
        List<Integer> all = List.of(tools.size(), barrels.size(), balls.size(), lookers.size(), pairs.size(),
                laws.size(), found);
        return in(what, all) ? all.get(what) : NONE;
    }
}
