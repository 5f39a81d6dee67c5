import java.util.Arrays;

/** Hairs on balls: what tools cut, barrels write and lookers say. ../shared/DOC.md has the promises. */
public final class OneBarrel {
    public static final int NONE = -1;

    /** Where NONE already is an answer, this one says that there is no such thing. */
    private static final int ABSENT = NONE - 1;

    private static final int HAIRS = 32;
    private static final int WRAP = HAIRS - 1;
    private static final int HIGHEST = 63;
    private static final int FIRST_HEIGHT = 32;
    private static final int TOOLS = 6;
    private static final int BARRELS = 16;
    private static final int BALLS = 40;
    private static final int LOOKERS = 6;
    private static final int PAIRS = 10;
    private static final int SCENES = 8;
    private static final int SOFTEST = 9;
    private static final int RUSTIEST = 99;
    private static final int WIDEST_MARGIN = 15;
    private static final int MOST_HOURS = 99;
    private static final int TAPE_BYTES = 600;
    private static final int FED_BYTES = 20;
    private static final int LINES = 16;
    private static final int OPEN = 8;
    private static final int CHANGES = 3;

    private static final int CANT_STAND = 1;
    private static final int PART_BY_ZERO = 2;
    private static final int TOO_MANY = 3;

    private static final int SAYS_NOT = 0;
    private static final int SAYS_SAME = 1;
    private static final int CANT_SAY = 2;

    private static final int ONE_BARRELS = 0;
    private static final int KIN = 1;
    private static final int STRANGE = 2;

    private static final int RIGHT_GRADE = 0;
    private static final int WRONG_GRADE = 1;
    private static final int CANT_GRADE = 2;

    /*
     * One int is a token and, behind the parts it works on, also a step of a text that was read:
     * a number n is ~n (so below 0), a sign its character, a keyword WORD and its place in WORDS.
     */
    private static final int FINISH = 0;
    private static final int NOTHING = 1;
    private static final String SIGNS = ";+-*/()<=>";
    private static final String WORDS =
            "or and no when cut wear take same not at high left right draw shots rust soft best longest slide pieces lack told ";
    private static final int WORD = 256;
    private static final int OR = WORD;
    private static final int AND = WORD + 1;
    private static final int NO = WORD + 2;
    private static final int WHEN = WORD + 3;
    private static final int CUT = WORD + 4;
    private static final int WEAR = WORD + 5;
    private static final int TAKE = WORD + 6;
    private static final int SAME = WORD + 7;
    private static final int NOT = WORD + 8;
    private static final int FACT = WORD + 9;
    private static final int PLACE_FACT = 0;
    private static final int HIGH_FACT = 1;
    private static final int LEFT_FACT = 2;
    private static final int RIGHT_FACT = 3;
    private static final int DRAW_FACT = 4;
    private static final int SHOTS_FACT = 5;
    private static final int RUST_FACT = 6;
    private static final int SOFT_FACT = 7;
    private static final int LAW_FACTS = 8;
    private static final int BEST_FACT = 8;
    private static final int LONGEST_FACT = 9;
    private static final int SLIDE_FACT = 10;
    private static final int PIECES_FACT = 11;
    private static final int LACK_FACT = 12;
    private static final int TOLD_FACT = 13;
    private static final int FACTS = 14;

    private final Tool[] tools = new Tool[TOOLS];
    private int toolCount;
    private final Barrel[] barrels = new Barrel[BARRELS];
    private int barrelCount;
    private final Ball[] balls = new Ball[BALLS];
    private int ballCount;
    private int foundCount;
    private final Looker[] lookers = new Looker[LOOKERS];
    private int lookerCount;
    private final Pair[] pairs = new Pair[PAIRS];
    private int pairCount;
    private final long[] scenes = new long[SCENES];
    private final Tokens tape = new Tokens();
    private final Reader reader = new Reader(tape);
    private Text lawText = new Text();
    private final Work work = new Work();

    public OneBarrel() {
    }

    public int tool(int state) {
        if (toolCount >= TOOLS) {
            return NONE;
        }
        tools[toolCount] = new Tool(state);
        toolCount++;
        return toolCount - 1;
    }

    public boolean edge(int tool, int i, int v) {
        Tool told = toolAt(tool);
        if (told == null || !isHair(i) || !isHeight(v)) {
            return false;
        }
        told.row[i] = v;
        return true;
    }

    public int barrel(int tool) {
        Tool cutter = toolAt(tool);
        if (cutter == null || barrelCount >= BARRELS) {
            return NONE;
        }
        barrels[barrelCount] = new Barrel(barrelCount, tool, cutter);
        barrelCount++;
        cutter.cuts++;
        work.tellShot(cutter.cuts, 0, 0);
        cutter.state = lawText.change(cutter.row, CUT, cutter.state, work);
        return barrelCount - 1;
    }

    public boolean rust(int barrel, int v) {
        Barrel told = barrelAt(barrel);
        if (told == null || v < 0 || v > RUSTIEST) {
            return false;
        }
        told.rustiness = v;
        return true;
    }

    public int shot(int barrel, int soft) {
        Barrel gun = barrelAt(barrel);
        if (gun == null || soft < 0 || soft > SOFTEST || ballCount >= BALLS) {
            return NONE;
        }
        Ball ball = new Ball(ballCount, gun, soft);
        work.tellShot(gun.shots, gun.rustiness, soft);
        gun.state = lawText.change(ball.row, TAKE, gun.state, work);
        gun.state = lawText.change(gun.row, WEAR, gun.state, work);
        gun.shots++;
        balls[ballCount] = ball;
        ballCount++;
        return ball.number;
    }

    public int found() {
        if (ballCount >= BALLS) {
            return NONE;
        }
        balls[ballCount] = new Ball(ballCount, null, NONE);
        ballCount++;
        foundCount++;
        return ballCount - 1;
    }

    public boolean hair(int ball, int i, int v) {
        Ball told = ballAt(ball);
        if (told == null || !isHair(i) || (v != NONE && !isHeight(v))) {
            return false;
        }
        told.row[i] = v;
        for (int l = 0; l < LOOKERS; l++) {
            Looker who = lookerAt(l);
            if (who != null) {
                who.forgetBall(ball);
            }
        }
        return true;
    }

    public int at(int what, int which, int i) {
        int[] row = rowOf(what, which);
        return row == null || !isHair(i) ? ABSENT : row[i];
    }

    public int of(int which, int what) {
        return what < 10 ? ofBall(ballAt(which), what) : ofBarrel(barrelAt(which), what);
    }

    public int feed(int a, int b, int c, int d, int e) {
        if (tape.length + FED_BYTES > TAPE_BYTES) {
            return NONE;
        }
        tape.put(a);
        tape.put(b);
        tape.put(c);
        tape.put(d);
        tape.put(e);
        return tape.length;
    }

    public boolean end(int n) {
        if (n < 0 || n > tape.length) {
            return false;
        }
        tape.length = n;
        return true;
    }

    public int laws() {
        if (!reader.read(true)) {
            return NONE;
        }
        lawText = reader.exchange(lawText);
        return lawText.lines;
    }

    public int judgement(int looker) {
        Looker who = lookerAt(looker);
        if (who == null) {
            reader.pass();
            return NONE;
        }
        if (!reader.read(false)) {
            return NONE;
        }
        who.judged = reader.exchange(who.judged);
        who.forgetSaid();
        return who.judged.lines;
    }

    public int fault(int what) {
        if (what == 0) {
            return reader.fault;
        }
        return what == 1 ? reader.faultPlace : NONE;
    }

    public int looker(int margin) {
        if (margin < 0 || margin > WIDEST_MARGIN || lookerCount >= LOOKERS) {
            return NONE;
        }
        lookers[lookerCount] = new Looker(margin);
        lookerCount++;
        return lookerCount - 1;
    }

    public int slid(int looker, int a, int b, int what) {
        Looker who = lookerAt(looker);
        Ball first = ballAt(a);
        Ball second = ballAt(b);
        if (who == null || first == null || second == null) {
            return NONE;
        }
        switch (what) {
            case 0:
                return Kept.many(who.measured(first, second));
            case 1:
                return Kept.slide(who.measured(first, second));
            case 2:
                return Kept.longest(who.measured(first, second));
            case 3:
                return who.piecesOf(first, second, work);
            case 4:
                return first.missing() + second.missing();
            default:
                return what < HAIRS || what >= 2 * HAIRS ? NONE
                        : Integer.bitCount(Slides.runs(first.row, second.row, what - HAIRS, who.margin));
        }
    }

    public int says(int looker, int a, int b, boolean told) {
        Looker who = lookerAt(looker);
        Ball first = ballAt(a);
        Ball second = ballAt(b);
        if (who == null || first == null || second == null) {
            return NONE;
        }
        return who.sayingOf(first, second, told, work);
    }

    public int truth(int a, int b) {
        return truthOf(ballAt(a), ballAt(b));
    }

    public int odds(int looker, int n, int truth, int what) {
        Looker who = lookerAt(looker);
        if (who == null || n < 0 || n > HAIRS || truth < ONE_BARRELS || truth > STRANGE || what < 0 || what > 1) {
            return NONE;
        }
        int count = 0;
        for (int a = 0; a < ballCount; a++) {
            Ball first = balls[a];
            for (int b = a + 1; b < ballCount; b++) {
                Ball second = balls[b];
                if (truthOf(first, second) == truth
                        && (what == 1 || Kept.longest(who.measured(first, second)) >= n)) {
                    count++;
                }
            }
        }
        return count;
    }

    public int far(int looker, int n) {
        Looker who = lookerAt(looker);
        if (who == null || n < 0 || n > HAIRS + 1) {
            return NONE;
        }
        int least = NONE;
        for (int a = 0; a < ballCount; a++) {
            Ball first = balls[a];
            for (int b = a + 1; b < ballCount; b++) {
                Ball second = balls[b];
                if (truthOf(first, second) == ONE_BARRELS
                        && (least == NONE || second.nth - first.nth < least)
                        && Kept.longest(who.measured(first, second)) < n) {
                    least = second.nth - first.nth;
                }
            }
        }
        return least;
    }

    public int own(int looker, int a, int b, int c, int what) {
        Looker who = lookerAt(looker);
        Ball ball = ballAt(a);
        Ball first = ballAt(b);
        Ball second = ballAt(c);
        if (who == null || ball == null || first == null || second == null || what < 0 || what > 1) {
            return 0;
        }
        int withFirst = who.runsUnderBest(ball, first);
        int withSecond = who.runsUnderBest(ball, second);
        return what == 0 ? withFirst & ~withSecond : withFirst & withSecond;
    }

    public int list(int looker, int ball, int k) {
        Looker who = lookerAt(looker);
        Ball listed = ballAt(ball);
        if (who == null || listed == null || k < 0 || k >= ballCount - 1) {
            return NONE;
        }
        int key = Kept.ABOVE_LIKENESS;
        for (int n = 0; n <= k; n++) {
            key = nextLikeness(who, listed, key);
        }
        return Kept.likenessBall(key);
    }

    public int pair(int a, int b, int hours) {
        Ball first = ballAt(a);
        Ball second = ballAt(b);
        if (first == null || second == null || a == b || hours < 1 || hours > MOST_HOURS || pairCount >= PAIRS) {
            return NONE;
        }
        pairs[pairCount] = new Pair(first, second, hours);
        pairCount++;
        return pairCount - 1;
    }

    public int counted(int looker, boolean told, int what) {
        Looker who = lookerAt(looker);
        if (who == null || what < RIGHT_GRADE || what > CANT_GRADE) {
            return NONE;
        }
        int count = 0;
        for (int k = 0; k < pairCount; k++) {
            if (gradeOf(who, pairs[k], told) == what) {
                count++;
            }
        }
        return count;
    }

    public int round(int lookers, int what) {
        if (lookers <= 0 || lookers >= 1 << lookerCount || what < 0 || what > 1) {
            return NONE;
        }
        markMisled();
        int set = cheapestRound(lookers);
        return what == 0 || set == NONE ? set : hoursOf(set);
    }

    public int lean(int looker) {
        Looker who = lookerAt(looker);
        if (who == null) {
            return NONE;
        }
        int count = 0;
        for (int k = 0; k < pairCount; k++) {
            Pair asked = pairs[k];
            if (asked != null && who.sayingOf(asked.first, asked.second, true, work)
                    != who.sayingOf(asked.first, asked.second, false, work)) {
                count++;
            }
        }
        return count;
    }

    public boolean scene(int scene, int ball, boolean is) {
        if (scene < 0 || scene >= SCENES || ballAt(ball) == null || isOfScene(scene, ball) == is) {
            return false;
        }
        scenes[scene] ^= 1L << ball;
        return true;
    }

    public int joined(int looker, int what) {
        Looker who = lookerAt(looker);
        if (who == null) {
            return NONE;
        }
        if (what == 1 || what == 2) {
            int key = weakest(who);
            return key == NONE ? NONE : what == 1 ? key % (SCENES * SCENES) : key / (SCENES * SCENES);
        }
        if (what == 0) {
            makeGroups(who);
            return groupCount();
        }
        int k = what - 10;
        if (k < 0 || k >= SCENES || scenes[k] == 0) {
            return NONE;
        }
        makeGroups(who);
        return work.groups[k];
    }

    public int look(int what) {
        switch (what) {
            case 0:
                return toolCount;
            case 1:
                return barrelCount;
            case 2:
                return ballCount;
            case 3:
                return lookerCount;
            case 4:
                return pairCount;
            case 5:
                return lawText.lines;
            case 6:
                return foundCount;
            default:
                return NONE;
        }
    }

    private static boolean isHair(int i) {
        return i >= 0 && i < HAIRS;
    }

    private static boolean isHeight(int v) {
        return v >= 0 && v <= HIGHEST;
    }

    private Tool toolAt(int n) {
        return n >= 0 && n < TOOLS ? tools[n] : null;
    }

    private Barrel barrelAt(int n) {
        return n >= 0 && n < BARRELS ? barrels[n] : null;
    }

    private Ball ballAt(int n) {
        return n >= 0 && n < BALLS ? balls[n] : null;
    }

    private Looker lookerAt(int n) {
        return n >= 0 && n < LOOKERS ? lookers[n] : null;
    }

    private int[] rowOf(int what, int which) {
        if (what == 0) {
            Tool tool = toolAt(which);
            return tool == null ? null : tool.row;
        }
        if (what == 1) {
            Barrel barrel = barrelAt(which);
            return barrel == null ? null : barrel.row;
        }
        Ball ball = ballAt(which);
        return what != 2 || ball == null ? null : ball.row;
    }

    private static int ofBall(Ball ball, int what) {
        if (ball == null) {
            return ABSENT;
        }
        switch (what) {
            case 0:
                return ball.gun == null ? NONE : ball.gun.number;
            case 1:
                return ball.nth;
            case 2:
                return ball.softness;
            case 3:
                return ball.missing();
            default:
                return ABSENT;
        }
    }

    private static int ofBarrel(Barrel barrel, int what) {
        if (barrel == null) {
            return ABSENT;
        }
        switch (what) {
            case 10:
                return barrel.cutter;
            case 11:
                return barrel.nth;
            case 12:
                return barrel.shots;
            case 13:
                return barrel.rustiness;
            default:
                return ABSENT;
        }
    }

    private static int truthOf(Ball a, Ball b) {
        if (a == null || b == null || a.gun == null || b.gun == null || a.number == b.number) {
            return NONE;
        }
        if (a.gun.number == b.gun.number) {
            return ONE_BARRELS;
        }
        return a.gun.cutter == b.gun.cutter ? KIN : STRANGE;
    }

    /** The greatest key of likeness below one, so that a list is walked without being kept. */
    private int nextLikeness(Looker who, Ball listed, int below) {
        int next = NONE;
        for (int n = 0; n < ballCount; n++) {
            Ball other = balls[n];
            if (other != null && n != listed.number) {
                int key = Kept.likeness(who.measured(listed, other), n);
                if (key < below && key > next) {
                    next = key;
                }
            }
        }
        return next;
    }

    /** NONE for a pair that counts for nobody. */
    private int gradeOf(Looker who, Pair asked, boolean told) {
        int truth = asked == null ? NONE : truthOf(asked.first, asked.second);
        if (truth == NONE) {
            return NONE;
        }
        int said = who.sayingOf(asked.first, asked.second, told, work);
        if (said == CANT_SAY) {
            return CANT_GRADE;
        }
        return (said == SAYS_SAME) == (truth == ONE_BARRELS) ? RIGHT_GRADE : WRONG_GRADE;
    }

    private void markMisled() {
        for (int k = 0; k < pairCount; k++) {
            int misled = 0;
            for (int l = 0; l < LOOKERS; l++) {
                Looker who = lookerAt(l);
                if (who != null && gradeOf(who, pairs[k], false) == WRONG_GRADE) {
                    misled |= 1 << l;
                }
            }
            work.misled[k] = misled;
        }
    }

    /** Sets are tried from the least number on, so that of equal ones the first stays. */
    private int cheapestRound(int lookerSet) {
        int cheapest = NONE;
        for (int set = 1; set < 1 << pairCount; set++) {
            if ((misledBy(set) & lookerSet) == lookerSet && (cheapest == NONE || isCheaper(set, cheapest))) {
                cheapest = set;
            }
        }
        return cheapest;
    }

    private boolean isCheaper(int set, int other) {
        int hours = hoursOf(set);
        int otherHours = hoursOf(other);
        return hours < otherHours || (hours == otherHours && Integer.bitCount(set) < Integer.bitCount(other));
    }

    private int misledBy(int set) {
        int misled = 0;
        for (int k = 0; k < pairCount; k++) {
            if ((set >>> k & 1) == 1) {
                misled |= work.misled[k];
            }
        }
        return misled;
    }

    private int hoursOf(int set) {
        int hours = 0;
        for (int k = 0; k < pairCount; k++) {
            Pair asked = pairs[k];
            if (asked != null && (set >>> k & 1) == 1) {
                hours += asked.hours;
            }
        }
        return hours;
    }

    private boolean isOfScene(int scene, int ball) {
        return (scenes[scene] >>> ball & 1L) == 1L;
    }

    /** The longest of the best pair of balls of two scenes; NONE if they are not joined. */
    private int strengthOf(Looker who, int scene, int other) {
        int strength = NONE;
        for (int a = 0; a < ballCount; a++) {
            Ball first = balls[a];
            if (first == null || !isOfScene(scene, a)) {
                continue;
            }
            for (int b = 0; b < ballCount; b++) {
                Ball second = balls[b];
                if (second != null && isOfScene(other, b)
                        && who.sayingOf(first, second, false, work) == SAYS_SAME) {
                    strength = Math.max(strength, Kept.longest(who.measured(first, second)));
                }
            }
        }
        return strength;
    }

    /** 64 times the weakest's longest, 8 times its first scene and its second one: the least is the one asked for. */
    private int weakest(Looker who) {
        int least = NONE;
        for (int i = 0; i < SCENES; i++) {
            for (int j = i + 1; j < SCENES; j++) {
                int strength = strengthOf(who, i, j);
                int key = (strength * SCENES + i) * SCENES + j;
                if (strength != NONE && (least == NONE || key < least)) {
                    least = key;
                }
            }
        }
        return least;
    }

    /** Each scene's group bears the least number of its scenes. */
    private void makeGroups(Looker who) {
        for (int i = 0; i < SCENES; i++) {
            work.groups[i] = i;
        }
        for (int i = 0; i < SCENES; i++) {
            for (int j = i + 1; j < SCENES; j++) {
                if (work.groups[i] != work.groups[j] && strengthOf(who, i, j) != NONE) {
                    work.uniteGroups(work.groups[i], work.groups[j]);
                }
            }
        }
    }

    private int groupCount() {
        int count = 0;
        for (int i = 0; i < SCENES; i++) {
            if (scenes[i] != 0 && work.groups[i] == i) {
                count++;
            }
        }
        return count;
    }

    private static final class Tool {
        final int[] row = new int[HAIRS];
        int state;
        int cuts;

        Tool(int state) {
            this.state = state;
            Arrays.fill(row, FIRST_HEIGHT);
        }
    }

    private static final class Barrel {
        final int number;
        final int cutter;
        final int nth;
        final int[] row;
        int state;
        int shots;
        int rustiness;

        Barrel(int number, int cutter, Tool tool) {
            this.number = number;
            this.cutter = cutter;
            this.nth = tool.cuts;
            this.row = tool.row.clone();
            this.state = tool.state;
        }
    }

    /** A ball that is found has no gun. */
    private static final class Ball {
        final int number;
        final Barrel gun;
        final int nth;
        final int softness;
        final int[] row;

        Ball(int number, Barrel gun, int softness) {
            this.number = number;
            this.gun = gun;
            this.nth = gun == null ? NONE : gun.shots;
            this.softness = softness;
            this.row = gun == null ? new int[HAIRS] : gun.row.clone();
        }

        int missing() {
            int count = 0;
            for (int i = 0; i < HAIRS; i++) {
                if (row[i] == NONE) {
                    count++;
                }
            }
            return count;
        }
    }

    private static final class Pair {
        final Ball first;
        final Ball second;
        final int hours;

        Pair(Ball first, Ball second, int hours) {
            this.first = first;
            this.second = second;
            this.hours = hours;
        }
    }

    /** Rows that are made once and used again by every call, because the room for all calls is counted. */
    private static final class Work {
        final int[] facts = new int[FACTS];
        final int[] ahead = new int[HAIRS];
        final int[] sets = new int[HAIRS];
        final int[] most = new int[(CHANGES + 1) * HAIRS];
        final int[] misled = new int[PAIRS];
        final int[] groups = new int[SCENES];

        void tellShot(int shots, int rust, int soft) {
            facts[SHOTS_FACT] = shots;
            facts[RUST_FACT] = rust;
            facts[SOFT_FACT] = soft;
        }

        void tellHair(int i, int draw) {
            facts[PLACE_FACT] = i;
            facts[HIGH_FACT] = ahead[i & WRAP];
            facts[LEFT_FACT] = ahead[i - 1 & WRAP];
            facts[RIGHT_FACT] = ahead[i + 1 & WRAP];
            facts[DRAW_FACT] = draw;
        }

        void uniteGroups(int one, int other) {
            int least = Math.min(one, other);
            for (int i = 0; i < SCENES; i++) {
                if (groups[i] == one || groups[i] == other) {
                    groups[i] = least;
                }
            }
        }
    }

    /** Two rows slid along one another; sets hold hair i as bit i. */
    private static final class Slides {
        static int runs(int[] first, int[] second, int slide, int margin) {
            int set = 0;
            for (int i = 0; i < HAIRS; i++) {
                int a = first[i];
                int b = second[i + slide & WRAP];
                if (a != NONE && b != NONE && a - b <= margin && b - a <= margin) {
                    set |= 1 << i;
                }
            }
            return set;
        }

        /** Each step takes one hair off the end of every run, so the steps until none is left are the longest. */
        static int longestIn(int set) {
            int left = set;
            int steps = 0;
            for (int n = 0; n < HAIRS && left != 0; n++) {
                left &= left << 1 | left >>> WRAP;
                steps++;
            }
            return steps;
        }

        static int measure(int[] first, int[] second, int margin) {
            int best = NONE;
            int bestSlide = 0;
            int bestSet = 0;
            for (int s = 0; s < HAIRS; s++) {
                int set = runs(first, second, s, margin);
                int many = Integer.bitCount(set);
                if (many > best) {
                    best = many;
                    bestSlide = s;
                    bestSet = set;
                }
            }
            return Kept.pack(best, bestSlide, longestIn(bestSet));
        }

        /** The work's most holds, for each count of changes and each slide, the most that ran so far. */
        static int pieces(int[] first, int[] second, int margin, Work work) {
            Arrays.fill(work.most, 0);
            for (int s = 0; s < HAIRS; s++) {
                work.sets[s] = runs(first, second, s, margin);
            }
            for (int i = 0; i < HAIRS; i++) {
                // The greatest count comes first, because it looks at the lesser one as that was ahead of this hair.
                for (int c = CHANGES; c >= 0; c--) {
                    addHair(i, c * HAIRS, work.sets, work.most);
                }
            }
            int pieces = 0;
            for (int s = 0; s < HAIRS; s++) {
                pieces = Math.max(pieces, work.most[CHANGES * HAIRS + s]);
            }
            return pieces;
        }

        private static void addHair(int i, int from, int[] sets, int[] most) {
            int lesser = from - HAIRS;
            for (int s = 0; s < HAIRS; s++) {
                int before = most[from + s];
                if (lesser >= 0) {
                    before = Math.max(before, most[lesser + (s - 1 & WRAP)]);
                    before = Math.max(before, most[lesser + (s + 1 & WRAP)]);
                }
                most[from + s] = before + (sets[s] >>> i & 1);
            }
        }
    }

    /** What is kept of two balls by one looker, in one int: its parts and the bits that say they are there. */
    private static final class Kept {
        static final int MEASURED = 1 << 17;
        static final int PIECES = 18;
        static final int PIECED = 1 << 24;
        static final int SAID = 25;
        static final int SAID_TOLD = 27;
        static final int UNSAID = (1 << SAID) - 1;
        static final int ABOVE_LIKENESS = 1 << 18;

        static int pack(int many, int slide, int longest) {
            return many | slide << 6 | longest << 11;
        }

        static int many(int kept) {
            return kept & 63;
        }

        static int slide(int kept) {
            return kept >>> 6 & 31;
        }

        static int longest(int kept) {
            return kept >>> 11 & 63;
        }

        /** Greater for what stands further ahead in a list. */
        static int likeness(int kept, int ball) {
            return (many(kept) * 64 + longest(kept)) * 64 + (63 - ball);
        }

        static int likenessBall(int key) {
            return 63 - key % 64;
        }
    }

    /** Keeps what was measured and said, because odds, lists and scenes ask for all pairs again and again. */
    private static final class Looker {
        final int margin;
        Text judged = new Text();
        private final int[] kept = new int[BALLS * BALLS];

        Looker(int margin) {
            this.margin = margin;
        }

        void forgetBall(int ball) {
            for (int n = 0; n < BALLS; n++) {
                kept[ball * BALLS + n] = 0;
                kept[n * BALLS + ball] = 0;
            }
        }

        void forgetSaid() {
            for (int n = 0; n < kept.length; n++) {
                kept[n] &= Kept.UNSAID;
            }
        }

        int measured(Ball first, Ball second) {
            int n = first.number * BALLS + second.number;
            if ((kept[n] & Kept.MEASURED) == 0) {
                kept[n] |= Kept.MEASURED | Slides.measure(first.row, second.row, margin);
            }
            return kept[n];
        }

        int piecesOf(Ball first, Ball second, Work work) {
            int n = first.number * BALLS + second.number;
            if ((kept[n] & Kept.PIECED) == 0) {
                int pieces = Slides.pieces(first.row, second.row, margin, work);
                kept[n] |= Kept.PIECED | pieces << Kept.PIECES;
            }
            return kept[n] >>> Kept.PIECES & 63;
        }

        int runsUnderBest(Ball first, Ball second) {
            return Slides.runs(first.row, second.row, Kept.slide(measured(first, second)), margin);
        }

        int sayingOf(Ball first, Ball second, boolean told, Work work) {
            int n = first.number * BALLS + second.number;
            int shift = told ? Kept.SAID_TOLD : Kept.SAID;
            if ((kept[n] >>> shift & 3) == 0) {
                int saying = judge(first, second, told, work);
                kept[n] |= saying + 1 << shift;
            }
            return (kept[n] >>> shift & 3) - 1;
        }

        private int judge(Ball first, Ball second, boolean told, Work work) {
            int measures = measured(first, second);
            work.facts[BEST_FACT] = Kept.many(measures);
            work.facts[LONGEST_FACT] = Kept.longest(measures);
            work.facts[SLIDE_FACT] = Kept.slide(measures);
            // The dearest measure is taken only for a text that asks for it.
            work.facts[PIECES_FACT] = judged.asksPieces ? piecesOf(first, second, work) : 0;
            work.facts[LACK_FACT] = first.missing() + second.missing();
            work.facts[TOLD_FACT] = told ? 1 : 0;
            for (int line = 0; line < judged.lines; line++) {
                if (judged.isSo(line, work.facts)) {
                    return judged.heads[line] == SAME ? SAYS_SAME : SAYS_NOT;
                }
            }
            return CANT_SAY;
        }
    }

    /** Lines that were read; their steps stand behind the parts they work on. */
    private static final class Text {
        /** Each of the nine levels holds two values at most, and a comparison four more. */
        private static final int DEEPEST = 32;

        final int[] heads = new int[LINES];
        private final int[] starts = new int[LINES];
        private final int[] claims = new int[LINES];
        private final int[] finishes = new int[LINES];
        private final int[] steps = new int[TAPE_BYTES];
        private final int[] stack = new int[DEEPEST];
        private int size;
        int lines;
        boolean asksPieces;

        void clear() {
            size = 0;
            lines = 0;
            asksPieces = false;
        }

        boolean isFull() {
            return lines >= LINES;
        }

        void beginLine(int head) {
            if (!isFull()) {
                heads[lines] = head;
                starts[lines] = size;
                claims[lines] = size;
            }
        }

        void beginClaim() {
            if (!isFull()) {
                claims[lines] = size;
            }
        }

        void finishLine() {
            if (!isFull()) {
                finishes[lines] = size;
                lines++;
            }
        }

        void put(int step) {
            if (size < steps.length) {
                steps[size] = step;
                size++;
                asksPieces = asksPieces || step == FACT + PIECES_FACT;
            }
        }

        /** A line without a claim is always so. */
        boolean isSo(int line, int[] facts) {
            return claims[line] == finishes[line] || value(claims[line], finishes[line], facts) != 0;
        }

        /** Changes a row all at once and gives the state behind its draws. */
        int change(int[] row, int law, int state, Work work) {
            int drawn = state;
            System.arraycopy(row, 0, work.ahead, 0, HAIRS);
            for (int i = 0; i < HAIRS; i++) {
                drawn = 1664525 * drawn + 1013904223;
                work.tellHair(i, drawn >>> 28);
                row[i] = newHeight(law, row[i], work.facts);
            }
            return drawn;
        }

        private int newHeight(int law, int height, int[] facts) {
            for (int line = 0; line < lines; line++) {
                if (heads[line] == law && isSo(line, facts)) {
                    return Math.max(0, Math.min(HIGHEST, value(starts[line], claims[line], facts)));
                }
            }
            return height;
        }

        private int value(int from, int to, int[] facts) {
            int top = 0;
            for (int n = from; n < to; n++) {
                int step = steps[n];
                if (step < 0 || step >= FACT) {
                    if (top < DEEPEST) {
                        stack[top] = step < 0 ? ~step : facts[step - FACT];
                        top++;
                    }
                } else if (step == NO) {
                    if (top > 0) {
                        stack[top - 1] = 1 - stack[top - 1];
                    }
                } else if (top > 1) {
                    top--;
                    stack[top - 1] = combined(step, stack[top - 1], stack[top]);
                }
            }
            return top > 0 ? stack[top - 1] : 0;
        }

        private static int combined(int step, int a, int b) {
            switch (step) {
                case '+':
                    return a + b;
                case '-':
                    return a - b;
                case '*':
                    return a * b;
                case '/':
                    return b == 0 ? 0 : a / b;
                case '<':
                    return a < b ? 1 : 0;
                case '=':
                    return a == b ? 1 : 0;
                case '>':
                    return a > b ? 1 : 0;
                case AND:
                    return a & b;
                case OR:
                    return a | b;
                default:
                    return 0;
            }
        }
    }

    /** The tape, and its bytes as tokens. */
    private static final class Tokens {
        private static final int BLANK = 0;
        private static final int LETTER = 1;
        private static final int DIGIT = 2;
        private static final int SIGN = 3;
        private static final int MOST_DIGITS = 4;

        private final int[] bytes = new int[TAPE_BYTES];
        int length;
        final int[] kinds = new int[TAPE_BYTES + 1];
        final int[] places = new int[TAPE_BYTES + 1];
        private int count;

        void put(int four) {
            for (int shift = 24; shift >= 0; shift -= 8) {
                if (length < TAPE_BYTES) {
                    bytes[length] = four >>> shift & 255;
                    length++;
                }
            }
        }

        void scan() {
            count = 0;
            for (int p = 0; p < length; p++) {
                if (isStart(p)) {
                    kinds[count] = kindAt(p);
                    places[count] = p;
                    count++;
                }
            }
            kinds[count] = FINISH;
            places[count] = length;
        }

        private boolean isStart(int p) {
            int sort = sortOf(bytes[p]);
            return sort == SIGN || (sort != BLANK && (p == 0 || sortOf(bytes[p - 1]) != sort));
        }

        private static int sortOf(int c) {
            if (c == 32 || c == 10) {
                return BLANK;
            }
            if ((c >= 'a' && c <= 'z') || (c >= 'A' && c <= 'Z')) {
                return LETTER;
            }
            return c >= '0' && c <= '9' ? DIGIT : SIGN;
        }

        private int kindAt(int p) {
            int sort = sortOf(bytes[p]);
            if (sort == LETTER) {
                return wordKind(p, runFrom(p));
            }
            if (sort == DIGIT) {
                return numberKind(p, runFrom(p));
            }
            return SIGNS.indexOf((char) bytes[p]) >= 0 ? bytes[p] : NOTHING;
        }

        /** How many bytes of one sort stand together from a place on. */
        private int runFrom(int p) {
            int sort = sortOf(bytes[p]);
            int run = 1;
            for (int q = p + 1; q < length && sortOf(bytes[q]) == sort; q++) {
                run++;
            }
            return run;
        }

        private int numberKind(int p, int run) {
            if (run > MOST_DIGITS) {
                return NOTHING;
            }
            int number = 0;
            for (int q = p; q < p + run; q++) {
                number = number * 10 + bytes[q] - '0';
            }
            return ~number;
        }

        private int wordKind(int p, int run) {
            int word = 0;
            int start = 0;
            for (int q = 0; q < WORDS.length(); q++) {
                if (WORDS.charAt(q) == ' ') {
                    if (q - start == run && isWord(p, start, run)) {
                        return WORD + word;
                    }
                    word++;
                    start = q + 1;
                }
            }
            return NOTHING;
        }

        private boolean isWord(int p, int start, int run) {
            for (int n = 0; n < run; n++) {
                if (WORDS.charAt(start + n) != bytes[p + n]) {
                    return false;
                }
            }
            return true;
        }
    }

    /**
     * Reads a tape into a text. Once there is a fault, every token counts as none, so that all that is still open
     * comes to its end without reading on.
     */
    private static final class Reader {
        int fault;
        int faultPlace = NONE;
        private final Tokens tokens;
        private Text text = new Text();
        private boolean isLaws;
        private int next;

        Reader(Tokens tokens) {
            this.tokens = tokens;
        }

        boolean read(boolean asLaws) {
            isLaws = asLaws;
            next = 0;
            fault = 0;
            faultPlace = NONE;
            tokens.scan();
            text.clear();
            for (int n = 0; n <= LINES && fault == 0 && kind() != FINISH; n++) {
                readLine();
            }
            tokens.length = 0;
            return fault == 0;
        }

        /** Nobody takes the tape: it is empty then, and this is no fault. */
        void pass() {
            fault = 0;
            faultPlace = NONE;
            tokens.length = 0;
        }

        /** The text that was read, for an old one whose rows the next reading uses again. */
        Text exchange(Text old) {
            Text fresh = text;
            text = old;
            return fresh;
        }

        private int kind() {
            return fault == 0 && next < tokens.kinds.length ? tokens.kinds[next] : NOTHING;
        }

        private void refuse(int why) {
            if (fault == 0 && next < tokens.places.length) {
                fault = why;
                faultPlace = tokens.places[next];
            }
        }

        private void expect(int kind) {
            if (kind() == kind) {
                next++;
            } else {
                refuse(CANT_STAND);
            }
        }

        private boolean isHead(int kind) {
            return isLaws ? kind >= CUT && kind <= TAKE : kind == SAME || kind == NOT;
        }

        private boolean isFact(int kind) {
            return isLaws ? kind >= FACT && kind < FACT + LAW_FACTS
                    : kind >= FACT + LAW_FACTS && kind < FACT + FACTS;
        }

        private void readLine() {
            int head = kind();
            if (!isHead(head)) {
                refuse(CANT_STAND);
                return;
            }
            if (text.isFull()) {
                refuse(TOO_MANY);
                return;
            }
            next++;
            text.beginLine(head);
            if (!isLaws) {
                readEither(0);
            } else {
                readSum();
                text.beginClaim();
                if (kind() == WHEN) {
                    next++;
                    readEither(0);
                }
            }
            expect(';');
            text.finishLine();
        }

        private void readEither(int open) {
            readBoth(open);
            for (int n = 0; n < TAPE_BYTES && kind() == OR; n++) {
                next++;
                readBoth(open);
                text.put(OR);
            }
        }

        private void readBoth(int open) {
            readClaim(open);
            for (int n = 0; n < TAPE_BYTES && kind() == AND; n++) {
                next++;
                readClaim(open);
                text.put(AND);
            }
        }

        private void readClaim(int open) {
            int opener = kind();
            if (opener != NO && opener != '(') {
                readSum();
                int sign = kind();
                if (sign == '<' || sign == '=' || sign == '>') {
                    next++;
                    readSum();
                    text.put(sign);
                } else {
                    refuse(CANT_STAND);
                }
            } else if (open >= OPEN) {
                refuse(TOO_MANY);
            } else if (opener == NO) {
                next++;
                readClaim(open + 1);
                text.put(NO);
            } else {
                next++;
                readEither(open + 1);
                expect(')');
            }
        }

        private void readSum() {
            readProduct();
            for (int n = 0; n < TAPE_BYTES && (kind() == '+' || kind() == '-'); n++) {
                int sign = kind();
                next++;
                readProduct();
                text.put(sign);
            }
        }

        private void readProduct() {
            readPart();
            for (int n = 0; n < TAPE_BYTES && (kind() == '*' || kind() == '/'); n++) {
                int sign = kind();
                next++;
                if (sign == '/' && kind() == ~0) {
                    refuse(PART_BY_ZERO);
                } else if (sign == '/' && kind() >= 0) {
                    refuse(CANT_STAND);
                }
                readPart();
                text.put(sign);
            }
        }

        private void readPart() {
            int kind = kind();
            if (kind < 0 || isFact(kind)) {
                text.put(kind);
                next++;
            } else {
                refuse(CANT_STAND);
            }
        }
    }
}
