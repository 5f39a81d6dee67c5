import java.util.Random;

/** Promises 16 to 23: lookers, rows slid along one another, what is said, truth, odds, far, own, lists. */
public final class LookingTest {
    public static void main(String[] args) {
        looker();
        slidWrong();
        slid();
        margin();
        missing();
        order();
        longest();
        pieces();
        piecesByEveryWay();
        says();
        saysAnew();
        truth();
        odds();
        far();
        own();
        list();
        TestTools.close();
    }

    /** 32 hairs, all of one height. */
    private static int[] flat(int height) {
        int[] row = new int[32];
        java.util.Arrays.fill(row, height);
        return row;
    }

    /** 32 heights no two of which are alike. */
    private static int[] stairs() {
        int[] row = new int[32];
        for (int i = 0; i < 32; i++) {
            row[i] = 2 * i;
        }
        return row;
    }

    /** Such that hair i of the first lies beside hair i + s of this one. */
    private static int[] turned(int[] row, int s) {
        int[] turned = new int[32];
        for (int i = 0; i < 32; i++) {
            turned[(i + s) % 32] = row[i];
        }
        return turned;
    }

    /** Promise 16. */
    private static void looker() {
        OneBarrel x = new OneBarrel();
        TestTools.due("margin -1", x.looker(-1), -1);
        TestTools.due("margin 16", x.looker(16), -1);
        TestTools.due("none came", x.look(3), 0);
        int[] margins = {0, 15, 0, 1, 2, 3};
        for (int n = 0; n < 6; n++) {
            TestTools.due("looker " + n, x.looker(margins[n]), n);
        }
        TestTools.due("the seventh", x.looker(0), -1);
        TestTools.due("lookers", x.look(3), 6);
    }

    /** Promise 17: what can't be. */
    private static void slidWrong() {
        OneBarrel x = new OneBarrel();
        x.looker(0);
        TestTools.ball(x, stairs());
        int[][] wrong = {{1, 0, 0, 0}, {-1, 0, 0, 0}, {0, 1, 0, 0}, {0, -1, 0, 0}, {0, 0, 1, 0}, {0, 0, -1, 0},
            {0, 0, 0, -1}, {0, 0, 0, 5}, {0, 0, 0, 31}, {0, 0, 0, 64}, {0, 40, 0, 0}, {6, 0, 0, 0},
            {0, 0, 0, Integer.MIN_VALUE}, {0, 0, 0, Integer.MAX_VALUE}};
        for (int[] w : wrong) {
            String call = "slid(" + w[0] + ", " + w[1] + ", " + w[2] + ", " + w[3] + ")";
            TestTools.due(call, x.slid(w[0], w[1], w[2], w[3]), -1);
        }
        TestTools.due("a ball beside itself", x.slid(0, 0, 0, 0), 32);
    }

    private static void slid() {
        for (int s = 0; s < 32; s++) {
            OneBarrel x = new OneBarrel();
            x.looker(1);
            TestTools.ball(x, stairs());
            TestTools.ball(x, turned(stairs(), s));
            TestTools.due("many of best", x.slid(0, 0, 1, 0), 32);
            TestTools.due("its slide", x.slid(0, 0, 1, 1), s);
            TestTools.due("the other way round", x.slid(0, 1, 0, 1), (32 - s) % 32);
            TestTools.due("longest", x.slid(0, 0, 1, 2), 32);
            TestTools.due("many of s", x.slid(0, 0, 1, 32 + s), 32);
            TestTools.due("many of the next s", x.slid(0, 0, 1, 32 + (s + 1) % 32), 0);
        }
        OneBarrel x = new OneBarrel();
        x.looker(0);
        TestTools.ball(x, flat(5));
        TestTools.ball(x, flat(5));
        TestTools.ball(x, flat(6));
        TestTools.due("of several s the least", x.slid(0, 0, 1, 1), 0);
        TestTools.due("none runs", x.slid(0, 0, 2, 0), 0);
        TestTools.due("then s is 0", x.slid(0, 0, 2, 1), 0);
        TestTools.due("and longest 0", x.slid(0, 0, 2, 2), 0);
        TestTools.due("and pieces 0", x.slid(0, 0, 2, 3), 0);
    }

    private static void margin() {
        OneBarrel x = new OneBarrel();
        x.looker(0);
        x.looker(3);
        x.looker(15);
        TestTools.ball(x, flat(20));
        TestTools.ball(x, 20, 21, 23, 24, 17, 16, 35, 36, 5, 4);
        for (int i = 10; i < 32; i++) {
            x.hair(1, i, 63);
        }
        TestTools.due("margin 0", x.slid(0, 0, 1, 0), 1);
        TestTools.due("margin 3", x.slid(1, 0, 1, 0), 4);
        TestTools.due("margin 15", x.slid(2, 0, 1, 0), 8);
    }

    private static void missing() {
        OneBarrel x = new OneBarrel();
        x.looker(15);
        TestTools.ball(x, flat(0));
        TestTools.ball(x, flat(0));
        x.hair(0, 3, -1);
        x.hair(0, 4, -1);
        x.hair(1, 3, -1);
        TestTools.due("lack of both", x.slid(0, 0, 1, 4), 3);
        TestTools.due("lack of one twice", x.slid(0, 0, 0, 4), 4);
        TestTools.due("a missing hair does not run, even beside a 0", x.slid(0, 0, 1, 32), 30);
        TestTools.due("slid by 2, hair 1 lies beside the missing 3", x.slid(0, 0, 1, 34), 29);
        TestTools.due("round it is one run", x.slid(0, 0, 1, 2), 30);
        x.hair(0, 3, 0);
        TestTools.due("told anew", x.slid(0, 0, 1, 4), 2);
        for (int i = 0; i < 32; i++) {
            x.hair(0, i, -1);
        }
        TestTools.due("all are missing", x.slid(0, 0, 0, 0), 0);
        TestTools.due("lack 64", x.slid(0, 0, 0, 4), 64);
    }

    /** Slid the other way, of several s another one may be the least. */
    private static void order() {
        OneBarrel x = new OneBarrel();
        x.looker(0);
        TestTools.ball(x, flat(1));
        TestTools.ball(x, flat(2));
        x.hair(0, 0, 50);
        x.hair(0, 1, 51);
        x.hair(1, 5, 50);
        x.hair(1, 8, 51);
        TestTools.due("the first beside the second", x.slid(0, 0, 1, 1), 5);
        TestTools.due("the second beside the first", x.slid(0, 1, 0, 1), 25);
    }

    private static void longest() {
        OneBarrel x = new OneBarrel();
        x.looker(0);
        TestTools.ball(x, stairs());
        TestTools.ball(x, stairs());
        for (int i : new int[] {3, 10, 29}) {
            x.hair(1, i, 63);
        }
        TestTools.due("between 10 and 29", x.slid(0, 0, 1, 2), 18);
        x.hair(1, 15, 63);
        x.hair(1, 20, 63);
        TestTools.due("between 20 and 29", x.slid(0, 0, 1, 2), 8);
        x.hair(1, 25, 63);
        x.hair(1, 3, 6);
        TestTools.due("from 30 round to 9", x.slid(0, 0, 1, 2), 12);
        TestTools.due("its slide", x.slid(0, 0, 1, 1), 0);
        // The longest is that of the best slide, also if another slide has a longer one.
        OneBarrel y = new OneBarrel();
        y.looker(0);
        TestTools.ball(y, flat(0));
        TestTools.ball(y, flat(1));
        int[] a = {10, 11, 12, 13, 1, 20, 3, 21, 4, 22, 5, 23, 6, 24};
        int[] b = {10, 11, 12, 13, 40, 41, 20, 42, 21, 43, 22, 44, 23, 45, 24};
        TestTools.hairs(y, 0, a);
        TestTools.hairs(y, 1, b);
        TestTools.due("slide 0 has four in a row", y.slid(0, 0, 1, 32), 4);
        TestTools.due("slide 1 has five", y.slid(0, 0, 1, 33), 5);
        TestTools.due("best is 5", y.slid(0, 0, 1, 0), 5);
        TestTools.due("none of them behind another", y.slid(0, 0, 1, 2), 1);
    }

    private static void pieces() {
        // Up by one behind each of `changes` hairs: with three changes all run, with four not.
        int[] due = {32, 32, 32, 32};
        for (int changes = 0; changes < 4; changes++) {
            TestTools.due("changes " + changes, piecesOf(changes, 1), due[changes]);
            TestTools.due("down " + changes, piecesOf(changes, -1), due[changes]);
        }
        TestTools.due("a fourth change can't be", piecesOf(4, 1) < 32, true);
        TestTools.due("nor a step of two at once", piecesOf(1, 2) < 32, true);
        OneBarrel x = new OneBarrel();
        x.looker(0);
        TestTools.ball(x, stairs());
        TestTools.ball(x, turned(stairs(), 31));
        TestTools.due("begun with any s", x.slid(0, 0, 1, 3), 32);
    }

    /** A row beside which another one moves by a step behind hairs 5, 11, 17, 23. */
    private static int piecesOf(int changes, int step) {
        OneBarrel x = new OneBarrel();
        x.looker(0);
        int first = TestTools.ball(x, stairs());
        int second = TestTools.ball(x, flat(63));
        for (int i = 0; i < 32; i++) {
            int slide = 31 + step * Math.min(changes, i / 6);
            x.hair(second, Math.floorMod(i + slide, 32), 2 * i);
        }
        // Where two hairs of the first came to one of the second, that hair of the first is made not to count.
        int lost = 0;
        for (int i = 0; i < 32; i++) {
            int slide = 31 + step * Math.min(changes, i / 6);
            if (x.at(2, second, Math.floorMod(i + slide, 32)) != 2 * i) {
                lost++;
            }
        }
        return x.slid(0, first, second, 3) + lost;
    }

    private static void piecesByEveryWay() {
        Random random = new Random(7);
        for (int n = 0; n < 40; n++) {
            OneBarrel x = new OneBarrel();
            Model model = new Model();
            int margin = random.nextInt(3);
            x.looker(margin);
            model.looker(margin);
            for (int ball = 0; ball < 2; ball++) {
                x.found();
                model.found();
                for (int i = 0; i < 32; i++) {
                    int v = random.nextInt(2 + n) - 1;
                    x.hair(ball, i, v);
                    model.hair(ball, i, v);
                }
            }
            int want = Model.piecesByEveryWay(model.lookers.get(0), model.balls.get(0), model.balls.get(1));
            TestTools.due("pieces by every way", x.slid(0, 0, 1, 3), want);
            TestTools.due("pieces by the model", model.slid(0, 0, 1, 3), want);
        }
    }

    /** Promise 18. */
    private static void says() {
        OneBarrel x = new OneBarrel();
        x.looker(0);
        TestTools.ball(x, stairs());
        TestTools.ball(x, turned(stairs(), 9));
        x.hair(1, 9, -1);
        x.hair(1, 20, 63);
        int[][] wrong = {{1, 0, 1}, {-1, 0, 1}, {0, 2, 1}, {0, -1, 1}, {0, 0, 2}, {0, 0, -1}};
        for (int[] w : wrong) {
            TestTools.due("says(" + w[0] + ", " + w[1] + ", " + w[2] + ")", x.says(w[0], w[1], w[2], true), -1);
        }
        TestTools.due("without a text he can't say", x.says(0, 0, 1, false), 2);
        says(x, "same best = 30;", 1);
        says(x, "same slide = 9;", 1);
        says(x, "same longest = 20;", 1);
        says(x, "same pieces = 30;", 1);
        says(x, "same lack = 1;", 1);
        says(x, "same told = 0;", 1);
        says(x, "same told = 1;", 2);
        says(x, "not best = 30;", 0);
        says(x, "same best = 31; not slide = 9; same 1 = 1;", 0);
        says(x, "not best = 31; same slide = 9; not 1 = 1;", 1);
        TestTools.judgement(x, 0, "same told = 1; not told = 0;");
        TestTools.due("told", x.says(0, 0, 1, true), 1);
        TestTools.due("not told", x.says(0, 0, 1, false), 0);
        TestTools.due("told again", x.says(0, 0, 1, true), 1);
        TestTools.judgement(x, 0, "same slide = 23;");
        TestTools.due("the first one's row comes first", x.says(0, 1, 0, false), 1);
        TestTools.due("not the second's", x.says(0, 0, 1, false), 2);
        TestTools.due("a ball beside itself", x.says(0, 0, 0, false), 2);
        TestTools.judgement(x, 0, "same slide = 0; not slide = 23;");
        TestTools.due("by another text", x.says(0, 0, 0, false), 1);
        TestTools.due("the others by it", x.says(0, 1, 0, false), 0);
        x.hair(0, 3, 63);
        TestTools.due("an odd best", x.slid(0, 0, 1, 0), 29);
        TestTools.due("its slide", x.slid(0, 0, 1, 1), 9);
        TestTools.judgement(x, 0, "same best = 29 and slide = 9 and longest = 20;");
        TestTools.due("still measured so", x.says(0, 0, 1, true), 1);
        TestTools.due("the odd best behind a judgement", x.slid(0, 0, 1, 0), 29);
    }

    private static void says(OneBarrel x, String judgement, int want) {
        TestTools.judgement(x, 0, judgement);
        TestTools.due(judgement, x.says(0, 0, 1, false), want);
    }

    /** What was said does not outlive a hair that is told anew, nor another judgement. */
    private static void saysAnew() {
        OneBarrel x = new OneBarrel();
        x.looker(0);
        x.looker(0);
        TestTools.ball(x, stairs());
        TestTools.ball(x, stairs());
        for (int l = 0; l < 2; l++) {
            TestTools.judgement(x, l, "same pieces = 32 and best = 32 and longest = 32 and lack = 0; not 1 = 1;");
            TestTools.due("same", x.says(l, 0, 1, false), 1);
            TestTools.due("same, the other way", x.says(l, 1, 0, true), 1);
        }
        x.hair(1, 4, -1);
        for (int l = 0; l < 2; l++) {
            TestTools.due("not", x.says(l, 0, 1, false), 0);
            TestTools.due("not, the other way", x.says(l, 1, 0, true), 0);
            TestTools.due("pieces", x.slid(l, 0, 1, 3), 31);
            TestTools.due("pieces, the other way", x.slid(l, 1, 0, 3), 31);
            TestTools.due("best", x.slid(l, 0, 1, 0), 31);
            TestTools.due("longest", x.slid(l, 1, 0, 2), 31);
        }
    }

    /** Promise 19. */
    private static void truth() {
        OneBarrel x = store();
        int[][] due = {{0, 1, 0}, {1, 0, 0}, {0, 2, 1}, {2, 0, 1}, {0, 3, 2}, {3, 2, 2}, {0, 0, -1}, {0, 4, -1},
            {4, 0, -1}, {4, 4, -1}, {0, 6, -1}, {6, 0, -1}, {-1, 0, -1}, {0, -1, -1}, {0, 5, 0}, {0, 40, -1}};
        for (int[] d : due) {
            TestTools.due("truth(" + d[0] + ", " + d[1] + ")", x.truth(d[0], d[1]), d[2]);
        }
    }

    /**
     * Balls 0, 1 and 5 of barrel 0, 2 of its kin, 3 of a strange one, 4 found; the barrels' hairs are stairs, and
     * hair i of all balls is moved away where it is told.
     */
    private static OneBarrel store() {
        OneBarrel x = new OneBarrel();
        x.looker(0);
        x.tool(0);
        x.tool(0);
        for (int i = 0; i < 32; i++) {
            x.edge(0, i, 2 * i);
            x.edge(1, i, 2 * i);
        }
        x.barrel(0);
        x.barrel(0);
        x.barrel(1);
        x.shot(0, 0);
        x.shot(0, 0);
        x.shot(1, 0);
        x.shot(2, 0);
        x.found();
        x.shot(0, 0);
        return x;
    }

    /** Promise 20. */
    private static void odds() {
        OneBarrel x = store();
        x.hair(5, 0, 61);
        x.hair(5, 20, 61);
        x.hair(2, 0, 61);
        x.hair(3, 0, 61);
        x.hair(3, 10, 61);
        // One barrel's: 0-1 has 32, 0-5 and 1-5 have 19.
        TestTools.due("one barrel's", x.odds(0, 0, 0, 1), 3);
        TestTools.due("n 0", x.odds(0, 0, 0, 0), 3);
        TestTools.due("n 19", x.odds(0, 19, 0, 0), 3);
        TestTools.due("n 20", x.odds(0, 20, 0, 0), 1);
        TestTools.due("n 32", x.odds(0, 32, 0, 0), 1);
        TestTools.due("there are as many for each n", x.odds(0, 32, 0, 1), 3);
        // Kin: 0-2, 1-2 have 31; 2-5 has 19, or 20 with hair 0, which runs.
        TestTools.due("kin", x.odds(0, 0, 1, 1), 3);
        TestTools.due("kin of 31", x.odds(0, 31, 1, 0), 3);
        TestTools.due("kin of 32", x.odds(0, 32, 1, 0), 0);
        // Strange: 0-3 and 1-3 have 21, 2-3 has 31 with hair 0, 3-5 runs from 21 to 9: 21.
        TestTools.due("strange", x.odds(0, 0, 2, 1), 4);
        TestTools.due("strange of 21", x.odds(0, 21, 2, 0), 4);
        TestTools.due("strange of 22", x.odds(0, 22, 2, 0), 1);
        int[][] wrong = {{1, 0, 0, 0}, {-1, 0, 0, 0}, {0, -1, 0, 0}, {0, 33, 0, 0}, {0, 0, -1, 0}, {0, 0, 3, 0},
            {0, 0, 0, 2}, {0, 0, 0, -1}, {0, 33, 0, 1}};
        for (int[] w : wrong) {
            String call = "odds(" + w[0] + ", " + w[1] + ", " + w[2] + ", " + w[3] + ")";
            TestTools.due(call, x.odds(w[0], w[1], w[2], w[3]), -1);
        }
        OneBarrel none = new OneBarrel();
        none.looker(0);
        TestTools.due("no balls", none.odds(0, 0, 0, 0), 0);
        TestTools.due("no pairs", none.odds(0, 0, 0, 1), 0);
    }

    /** Promise 21. */
    private static void far() {
        OneBarrel x = new OneBarrel();
        x.looker(0);
        x.tool(0);
        for (int i = 0; i < 32; i++) {
            x.edge(0, i, 2 * i);
        }
        x.barrel(0);
        x.barrel(0);
        for (int n = 0; n < 4; n++) {
            x.shot(0, 0);
            x.shot(1, 0);
        }
        // The balls of barrel 0 are 0, 2, 4, 6, those of barrel 1 1, 3, 5, 7.
        TestTools.due("none is below 32", x.far(0, 32), -1);
        TestTools.due("all are below 33", x.far(0, 33), 1);
        x.hair(6, 5, 61);
        x.hair(4, 5, 61);
        TestTools.due("1 between 2 and 4", x.far(0, 32), 1);
        x.hair(2, 5, 61);
        TestTools.due("1 between 0 and 2", x.far(0, 32), 1);
        x.hair(0, 5, 61);
        TestTools.due("all alike", x.far(0, 32), -1);
        x.hair(7, 5, 9);
        x.hair(5, 5, 11);
        x.hair(7, 15, 61);
        TestTools.due("1 for 31", x.far(0, 32), 1);
        for (int ball = 1; ball < 8; ball += 2) {
            x.hair(ball, 5, 10);
            x.hair(ball, 15, 30);
        }
        x.looker(1);
        x.hair(1, 5, 10);
        x.hair(3, 5, 11);
        x.hair(5, 5, 12);
        x.hair(7, 5, 13);
        TestTools.due("margin 1: two shots between", x.far(1, 32), 2);
        TestTools.due("margin 0: one", x.far(0, 32), 1);
        x.hair(0, 6, 12);
        x.hair(2, 6, 13);
        x.hair(4, 6, 13);
        x.hair(6, 6, 14);
        TestTools.due("in the whole store", x.far(1, 32), 2);
        x.hair(7, 5, 11);
        x.hair(5, 5, 11);
        TestTools.due("three between 0 and 6", x.far(1, 32), 3);
        TestTools.due("n 0", x.far(0, 0), -1);
        OneBarrel two = store();
        two.hair(0, 3, -1);
        TestTools.due("two balls one behind the other", two.far(0, 32), 1);
        int[][] wrong = {{0, -1}, {0, 34}, {2, 5}, {-1, 5}};
        for (int[] w : wrong) {
            TestTools.due("far(" + w[0] + ", " + w[1] + ")", x.far(w[0], w[1]), -1);
        }
    }

    /** Promise 22. */
    private static void own() {
        OneBarrel x = new OneBarrel();
        x.looker(0);
        TestTools.ball(x, stairs());
        TestTools.ball(x, turned(stairs(), 4));
        TestTools.ball(x, turned(stairs(), 7));
        x.hair(1, 4, 61);
        x.hair(1, 5, 61);
        x.hair(2, 8, 61);
        x.hair(2, 6, 61);
        // With ball 1 hairs 0 and 1 do not run, with ball 2 hairs 1 and 31.
        TestTools.due("own beside 1 and 2", x.own(0, 0, 1, 2, 0), 1 << 31);
        TestTools.due("own beside 2 and 1", x.own(0, 0, 2, 1, 0), 1);
        TestTools.due("kin", x.own(0, 0, 1, 2, 1), 0x7FFFFFFC);
        TestTools.due("the ball's own hairs", x.own(0, 1, 0, 2, 0), 1 << 3);
        TestTools.due("a ball beside itself", x.own(0, 0, 0, 1, 0), 3);
        int[][] wrong = {{1, 0, 1, 2, 0}, {-1, 0, 1, 2, 0}, {0, 3, 1, 2, 0}, {0, -1, 1, 2, 0}, {0, 0, 3, 2, 1},
            {0, 0, -1, 2, 1}, {0, 0, 1, 3, 1}, {0, 0, 1, -1, 1}, {0, 0, 1, 2, 2}, {0, 0, 1, 2, -1}};
        for (int[] w : wrong) {
            String call = "own(" + w[0] + ", " + w[1] + ", " + w[2] + ", " + w[3] + ", " + w[4] + ")";
            TestTools.due(call, x.own(w[0], w[1], w[2], w[3], w[4]), 0);
        }
    }

    /** Promise 23. */
    private static void list() {
        OneBarrel x = store();
        x.hair(0, 0, 61);
        x.hair(0, 1, 61);
        x.hair(1, 8, 61);
        x.hair(1, 12, 61);
        x.hair(1, 16, 61);
        // For ball 2: 0 has 30 in a row, 1 has 29, 3 and 5 have 32, the found one hair 0 alone.
        int[] due = {3, 5, 0, 1, 4};
        for (int k = 0; k < 5; k++) {
            TestTools.due("place " + k, x.list(0, 2, k), due[k]);
        }
        x.hair(1, 8, 16);
        // Now ball 1 has 30 too, but only 27 in a row.
        TestTools.due("by the longest", x.list(0, 2, 2), 0);
        x.hair(0, 1, 2);
        x.hair(0, 10, 61);
        TestTools.due("the longest of 1 is longer", x.list(0, 2, 2), 1);
        for (int i = 2; i < 20; i += 4) {
            x.hair(3, i, 61);
        }
        for (int i = 10; i < 18; i++) {
            x.hair(5, i, 61);
        }
        // Ball 3 has 27, 16 in a row; ball 5 has 24 in a row.
        TestTools.due("many comes ahead of the longest", x.list(0, 2, 2), 3);
        TestTools.due("the longer one behind it", x.list(0, 2, 3), 5);
        TestTools.due("place 5", x.list(0, 2, 5), -1);
        TestTools.due("place -1", x.list(0, 2, -1), -1);
        TestTools.due("ball 6", x.list(0, 6, 0), -1);
        TestTools.due("ball -1", x.list(0, -1, 0), -1);
        TestTools.due("looker 1", x.list(1, 2, 0), -1);
        TestTools.due("looker -1", x.list(-1, 2, 0), -1);
        TestTools.due("for a found one, by number", x.list(0, 4, 0), 1);
        OneBarrel alone = new OneBarrel();
        alone.looker(0);
        alone.found();
        TestTools.due("no others", alone.list(0, 0, 0), -1);
    }
}
