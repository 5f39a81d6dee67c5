/** Promises 24 to 29: pairs, what is counted, the cheapest round, leaning, scenes. */
public final class RoundTest {
    public static void main(String[] args) {
        pair();
        counted();
        round();
        roundTies();
        lean();
        scene();
        joined();
        weakest();
        joinedOrder();
        joinedEnds();
        TestTools.close();
    }

    /** Balls 0 and 1 of one barrel, 2 of its kin, 3 of a strange one, 4 found. */
    private static OneBarrel store(int lookers) {
        OneBarrel x = new OneBarrel();
        x.tool(0);
        x.tool(0);
        x.barrel(0);
        x.barrel(0);
        x.barrel(1);
        x.shot(0, 0);
        x.shot(0, 0);
        x.shot(1, 0);
        x.shot(2, 0);
        x.found();
        for (int l = 0; l < lookers; l++) {
            x.looker(0);
        }
        return x;
    }

    /** Promise 24. */
    private static void pair() {
        OneBarrel x = store(1);
        int[][] wrong = {{0, 0, 1}, {5, 0, 1}, {0, 5, 1}, {-1, 0, 1}, {0, -1, 1}, {0, 1, 0}, {0, 1, 100}, {0, 1, -1}};
        for (int[] w : wrong) {
            TestTools.due("pair(" + w[0] + ", " + w[1] + ", " + w[2] + ")", x.pair(w[0], w[1], w[2]), -1);
        }
        TestTools.due("none came", x.look(4), 0);
        TestTools.due("1 hour", x.pair(0, 1, 1), 0);
        TestTools.due("99 hours", x.pair(1, 0, 99), 1);
        TestTools.due("a found one", x.pair(4, 0, 5), 2);
        for (int k = 3; k < 10; k++) {
            TestTools.due("the same pair again", x.pair(0, 1, 1), k);
        }
        TestTools.due("the eleventh", x.pair(0, 1, 1), -1);
        TestTools.due("pairs", x.look(4), 10);
    }

    /** Promise 25. */
    private static void counted() {
        OneBarrel x = store(4);
        x.pair(0, 1, 1);
        x.pair(1, 2, 1);
        x.pair(0, 3, 1);
        x.pair(3, 2, 1);
        x.pair(0, 4, 1);
        x.pair(4, 3, 1);
        TestTools.judgement(x, 0, "same 1 = 1;");
        TestTools.judgement(x, 1, "not 1 = 1;");
        TestTools.judgement(x, 2, "not told = 1;");
        counted(x, 0, false, 1, 3, 0);
        counted(x, 1, false, 3, 1, 0);
        counted(x, 2, false, 0, 0, 4);
        counted(x, 2, true, 3, 1, 0);
        counted(x, 3, true, 0, 0, 4);
        TestTools.due("looker 4", x.counted(4, false, 0), -1);
        TestTools.due("looker -1", x.counted(-1, false, 0), -1);
        TestTools.due("what 3", x.counted(0, false, 3), -1);
        TestTools.due("what -1", x.counted(0, false, -1), -1);
        // The pair's first ball comes first: hair 0 of 3 lies beside hair 5 of 2 alone.
        for (int i = 0; i < 32; i++) {
            x.hair(3, i, -1);
            x.hair(2, i, -1);
        }
        x.hair(3, 0, 9);
        x.hair(2, 5, 9);
        TestTools.judgement(x, 0, "same slide = 5;");
        counted(x, 0, false, 0, 1, 3);
        TestTools.judgement(x, 0, "same slide = 27;");
        counted(x, 0, false, 0, 0, 4);
    }

    private static void counted(OneBarrel x, int looker, boolean told, int right, int wrong, int cant) {
        TestTools.due("right by " + looker, x.counted(looker, told, 0), right);
        TestTools.due("wrong by " + looker, x.counted(looker, told, 1), wrong);
        TestTools.due("can't by " + looker, x.counted(looker, told, 2), cant);
    }

    /** Promise 26. */
    private static void round() {
        OneBarrel x = store(4);
        TestTools.due("no pairs", x.round(1, 0), -1);
        x.pair(0, 1, 5);
        x.pair(0, 2, 3);
        x.pair(0, 3, 4);
        x.pair(0, 4, 1);
        TestTools.judgement(x, 0, "same 1 = 1;");
        TestTools.judgement(x, 1, "not 1 = 1;");
        TestTools.judgement(x, 2, "same told = 1; not told = 0;");
        round(x, 1, 0b0010, 3);
        round(x, 2, 0b0001, 5);
        round(x, 3, 0b0011, 8);
        round(x, 4, 0b0001, 5);
        round(x, 7, 0b0011, 8);
        TestTools.due("one who is never wrong", x.round(8, 0), -1);
        TestTools.due("his hours", x.round(8, 1), -1);
        TestTools.due("he among others", x.round(9, 0), -1);
        int[] wrong = {0, -1, 16, 17, 64, Integer.MIN_VALUE, Integer.MAX_VALUE};
        for (int set : wrong) {
            TestTools.due("round(" + set + ", 0)", x.round(set, 0), -1);
        }
        TestTools.due("what 2", x.round(1, 2), -1);
        TestTools.due("what -1", x.round(1, -1), -1);
        TestTools.due("a set of six with six", store(6).round(63, 0), -1);
    }

    private static void round(OneBarrel x, int lookers, int set, int hours) {
        TestTools.due("the round for " + lookers, x.round(lookers, 0), set);
        TestTools.due("hours for " + lookers, x.round(lookers, 1), hours);
    }

    private static void roundTies() {
        OneBarrel x = store(2);
        // Each pair has a lack of its own, so that a judgement can pick the pairs in which it errs.
        int[] balls = new int[6];
        for (int n = 0; n < 6; n++) {
            balls[n] = x.shot(2, 0);
            for (int i = 0; i <= n; i++) {
                x.hair(balls[n], i, -1);
            }
        }
        int[] hours = {2, 2, 4, 3, 1, 4};
        for (int n = 0; n < 6; n++) {
            x.pair(0, balls[n], hours[n]);
        }
        TestTools.judgement(x, 0, "same lack = 1 or lack = 3 or lack = 6;");
        TestTools.judgement(x, 1, "same lack = 2 or lack = 3 or lack = 6;");
        TestTools.due("of several the fewest pairs, then the least number", x.round(3, 0), 0b000100);
        TestTools.due("4 hours", x.round(3, 1), 4);
        TestTools.judgement(x, 1, "same lack = 2 or lack = 4 or lack = 5;");
        TestTools.due("the fewest hours", x.round(3, 0), 0b010001);
        TestTools.due("3 hours", x.round(3, 1), 3);
        TestTools.judgement(x, 0, "same lack = 2 or lack = 1;");
        TestTools.judgement(x, 1, "same lack = 1 or lack = 2;");
        TestTools.due("the least number", x.round(3, 0), 0b000001);
        TestTools.judgement(x, 0, "same lack = 4 or lack = 5;");
        TestTools.judgement(x, 1, "same lack = 1 or lack = 4;");
        TestTools.due("one pair of three hours, not two", x.round(3, 0), 0b001000);
    }

    /** Promise 27. */
    private static void lean() {
        OneBarrel x = store(3);
        TestTools.due("no pairs", x.lean(0), 0);
        x.pair(0, 1, 1);
        x.pair(0, 2, 1);
        x.pair(4, 0, 1);
        x.hair(0, 0, -1);
        x.hair(2, 0, -1);
        TestTools.judgement(x, 0, "same told = 1;");
        TestTools.judgement(x, 1, "same lack = 2 and told = 1; not 1 = 1;");
        TestTools.judgement(x, 2, "same 1 = 1; not told = 1;");
        TestTools.due("all, the found ones too", x.lean(0), 3);
        TestTools.due("one", x.lean(1), 1);
        TestTools.due("none", x.lean(2), 0);
        TestTools.due("looker 3", x.lean(3), -1);
        TestTools.due("looker -1", x.lean(-1), -1);
    }

    /** Promise 28. */
    private static void scene() {
        OneBarrel x = store(1);
        TestTools.due("none is of it", x.scene(0, 0, false), false);
        TestTools.due("of it", x.scene(0, 0, true), true);
        TestTools.due("it is so", x.scene(0, 0, true), false);
        TestTools.due("of another too", x.scene(7, 0, true), true);
        TestTools.due("no more", x.scene(0, 0, false), true);
        TestTools.due("it is not", x.scene(0, 0, false), false);
        int[][] wrong = {{-1, 0}, {8, 0}, {0, -1}, {0, 5}, {0, 40}, {0, 64}};
        for (int[] w : wrong) {
            TestTools.due("scene(" + w[0] + ", " + w[1] + ", true)", x.scene(w[0], w[1], true), false);
            TestTools.due("scene(" + w[0] + ", " + w[1] + ", false)", x.scene(w[0], w[1], false), false);
        }
        for (int n = 5; n < 40; n++) {
            x.found();
        }
        TestTools.due("ball 39", x.scene(3, 39, true), true);
        TestTools.due("ball 32", x.scene(3, 32, true), true);
        TestTools.due("ball 7 is another than 39", x.scene(3, 7, false), false);
        TestTools.due("ball 0 is another than 32", x.scene(3, 0, false), false);
        TestTools.due("groups", x.joined(0, 0), 2);
    }

    /** Promise 29. */
    private static void joined() {
        OneBarrel x = new OneBarrel();
        x.looker(0);
        x.looker(0);
        TestTools.due("no scenes", x.joined(0, 0), 0);
        TestTools.due("no weakest", x.joined(0, 1), -1);
        TestTools.due("nor its longest", x.joined(0, 2), -1);
        for (int ball = 0; ball < 8; ball++) {
            x.found();
            for (int i = 0; i < 32; i++) {
                x.hair(ball, i, -1);
            }
        }
        TestTools.judgement(x, 0, "same longest > 2;");
        TestTools.judgement(x, 1, "same told = 1;");
        // 1 - 6, 6 - 3 and 2 - 7 hang together; scene 5 stands alone; scenes 0 and 4 have no balls.
        link(x, 1, 6, 3, 40, 4);
        link(x, 6, 3, 10, 50, 5);
        link(x, 2, 7, 20, 60, 3);
        for (int scene : new int[] {1, 2, 3, 5, 6, 7}) {
            x.scene(scene, scene, true);
        }
        TestTools.due("groups", x.joined(0, 0), 3);
        int[] least = {-1, 1, 2, 1, -1, 5, 1, 2};
        for (int k = 0; k < 8; k++) {
            TestTools.due("group of " + k, x.joined(0, 10 + k), least[k]);
        }
        TestTools.due("the weakest", x.joined(0, 1), 8 * 2 + 7);
        TestTools.due("its longest", x.joined(0, 2), 3);
        TestTools.due("not told: none is joined", x.joined(1, 0), 6);
        TestTools.due("no weakest", x.joined(1, 1), -1);
        TestTools.due("alone", x.joined(1, 16), 6);
        int[] wrong = {-1, 3, 9, 18, Integer.MIN_VALUE, Integer.MAX_VALUE};
        for (int what : wrong) {
            TestTools.due("joined(0, " + what + ")", x.joined(0, what), -1);
        }
        TestTools.due("looker 2", x.joined(2, 0), -1);
        TestTools.due("looker -1", x.joined(-1, 0), -1);
        x.scene(6, 6, false);
        TestTools.due("without the one between", x.joined(0, 0), 4);
        TestTools.due("3 is alone", x.joined(0, 13), 3);
        // A ball of two scenes is beside itself.
        x.scene(4, 1, true);
        TestTools.due("joined by a ball of both", x.joined(0, 14), 1);
    }

    /** Scenes 0 and 1, and 6 and 7: the first and the last ones. */
    private static void joinedEnds() {
        OneBarrel x = new OneBarrel();
        x.looker(0);
        for (int ball = 0; ball < 8; ball++) {
            x.found();
            for (int i = 0; i < 32; i++) {
                x.hair(ball, i, -1);
            }
            x.scene(ball, ball, true);
        }
        TestTools.judgement(x, 0, "same longest > 2;");
        TestTools.due("eight groups", x.joined(0, 0), 8);
        link(x, 0, 1, 3, 40, 4);
        link(x, 6, 7, 3, 50, 3);
        int[] least = {0, 0, 2, 3, 4, 5, 6, 6};
        for (int k = 0; k < 8; k++) {
            TestTools.due("group of " + k, x.joined(0, 10 + k), least[k]);
        }
        TestTools.due("six groups", x.joined(0, 0), 6);
        TestTools.due("the weakest", x.joined(0, 1), 8 * 6 + 7);
        link(x, 0, 7, 20, 10, 3);
        link(x, 4, 5, 20, 20, 3);
        link(x, 5, 6, 24, 30, 3);
        int[] now = {0, 0, 2, 3, 0, 0, 0, 0};
        for (int k = 0; k < 8; k++) {
            TestTools.due("group of " + k + " now", x.joined(0, 10 + k), now[k]);
        }
        TestTools.due("three groups", x.joined(0, 0), 3);
        TestTools.due("the first two of the weakest", x.joined(0, 1), 7);
    }

    /** Hairs that two balls have in common, from a hair on. */
    private static void link(OneBarrel x, int a, int b, int from, int height, int hairs) {
        for (int i = from; i < from + hairs; i++) {
            x.hair(a, i, height + i - from);
            x.hair(b, i, height + i - from);
        }
    }

    private static void weakest() {
        OneBarrel x = new OneBarrel();
        x.looker(0);
        for (int ball = 0; ball < 6; ball++) {
            x.found();
            for (int i = 0; i < 32; i++) {
                x.hair(ball, i, -1);
            }
        }
        TestTools.judgement(x, 0, "not longest = 7; same longest > 1;");
        // Balls 0 - 2 have 3 hairs, 0 - 3 have 5, 1 - 3 have 7 (of which he says not), 4 - 5 have 4.
        link(x, 0, 2, 0, 1, 3);
        link(x, 0, 3, 4, 11, 5);
        link(x, 1, 3, 10, 21, 7);
        link(x, 4, 5, 20, 41, 4);
        x.scene(0, 0, true);
        x.scene(0, 1, true);
        x.scene(1, 2, true);
        x.scene(1, 3, true);
        x.scene(2, 4, true);
        x.scene(3, 5, true);
        TestTools.due("the best pair of 0 and 1 has 5", x.joined(0, 1), 8 * 2 + 3);
        TestTools.due("the least longest", x.joined(0, 2), 4);
        x.hair(5, 23, -1);
        x.hair(5, 22, -1);
        TestTools.due("2 hairs", x.joined(0, 2), 2);
        x.hair(5, 21, -1);
        TestTools.due("no more joined", x.joined(0, 1), 1);
        TestTools.due("5 hairs", x.joined(0, 2), 5);
        link(x, 4, 5, 20, 41, 5);
        TestTools.due("of several the first two", x.joined(0, 1), 1);
    }

    /** The scene of the lesser number comes first, whatever the numbers of the balls. */
    private static void joinedOrder() {
        OneBarrel x = new OneBarrel();
        x.looker(0);
        for (int ball = 0; ball < 2; ball++) {
            x.found();
            for (int i = 0; i < 32; i++) {
                x.hair(ball, i, -1);
            }
        }
        x.hair(0, 0, 9);
        x.hair(1, 5, 9);
        x.scene(4, 1, true);
        x.scene(6, 0, true);
        TestTools.judgement(x, 0, "same slide = 27;");
        TestTools.due("ball 1 is of the lesser scene", x.joined(0, 16), 4);
        TestTools.judgement(x, 0, "same slide = 5;");
        TestTools.due("not the other way", x.joined(0, 16), 6);
    }
}
