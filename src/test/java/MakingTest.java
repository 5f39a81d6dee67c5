/** Promises 1 to 10 and 30: tools, barrels, balls, the draws, and what is told of them. */
public final class MakingTest {
    public static void main(String[] args) {
        newObject();
        tool();
        edge();
        barrel();
        rust();
        shot();
        found();
        hair();
        at();
        of();
        look();
        facts();
        draws();
        TestTools.close();
    }

    /** Promise 1. */
    private static void newObject() {
        OneBarrel x = new OneBarrel();
        for (int what = 0; what <= 6; what++) {
            TestTools.due("new: look(" + what + ")", x.look(what), 0);
        }
        TestTools.due("new: end(0)", x.end(0), true);
        TestTools.due("new: end(1)", x.end(1), false);
        TestTools.due("new: fault(0)", x.fault(0), 0);
        TestTools.due("new: fault(1)", x.fault(1), OneBarrel.NONE);
        x.tool(1);
        TestTools.due("another object is another", new OneBarrel().look(0), 0);
    }

    /** Promise 2. */
    private static void tool() {
        OneBarrel x = new OneBarrel();
        int[] states = {0, -1, Integer.MIN_VALUE, Integer.MAX_VALUE, 7, 8};
        for (int n = 0; n < 6; n++) {
            TestTools.due("tool " + n, x.tool(states[n]), n);
        }
        TestTools.due("the seventh tool", x.tool(0), -1);
        TestTools.due("tools", x.look(0), 6);
        for (int i = 0; i < 32; i++) {
            TestTools.due("an edge at first", x.at(0, 5, i), 32);
        }
    }

    /** Promise 3. */
    private static void edge() {
        OneBarrel x = new OneBarrel();
        TestTools.due("edge of no tool", x.edge(0, 0, 1), false);
        x.tool(0);
        TestTools.due("edge 0", x.edge(0, 0, 0), true);
        TestTools.due("edge 63", x.edge(0, 31, 63), true);
        int[][] wrong = {{-1, 0, 1}, {1, 0, 1}, {0, -1, 1}, {0, 32, 1}, {0, 5, -1}, {0, 5, 64},
            {Integer.MIN_VALUE, 0, 1}, {0, Integer.MAX_VALUE, 1}};
        for (int[] w : wrong) {
            TestTools.due("edge(" + w[0] + ", " + w[1] + ", " + w[2] + ")", x.edge(w[0], w[1], w[2]), false);
        }
        TestTools.due("hair 0", x.at(0, 0, 0), 0);
        TestTools.due("hair 31", x.at(0, 0, 31), 63);
        TestTools.due("hair 5 as it was", x.at(0, 0, 5), 32);
    }

    /** Promise 4. */
    private static void barrel() {
        OneBarrel x = new OneBarrel();
        TestTools.laws(x, "cut high + shots;");
        TestTools.due("barrel of no tool", x.barrel(0), -1);
        x.tool(0);
        x.tool(0);
        x.edge(0, 3, 10);
        TestTools.due("barrel", x.barrel(0), 0);
        TestTools.due("it has the edge as it was", x.at(1, 0, 3), 10);
        TestTools.due("the edge changed, this barrel counted", x.at(0, 0, 3), 11);
        TestTools.due("barrel of another tool", x.barrel(1), 1);
        TestTools.due("next one", x.barrel(0), 2);
        TestTools.due("it has the edge behind the first", x.at(1, 2, 3), 11);
        TestTools.due("the edge after two", x.at(0, 0, 3), 13);
        x.edge(0, 3, 60);
        TestTools.due("a barrel keeps its row", x.at(1, 2, 3), 11);
        TestTools.due("barrel(-1)", x.barrel(-1), -1);
        TestTools.due("barrel(2)", x.barrel(2), -1);
        for (int n = 3; n < 16; n++) {
            TestTools.due("barrel " + n, x.barrel(1), n);
        }
        int edge = x.at(0, 1, 0);
        TestTools.due("the seventeenth", x.barrel(1), -1);
        TestTools.due("the edge stays then", x.at(0, 1, 0), edge);
        TestTools.due("barrels", x.look(1), 16);
    }

    /** Promise 5. */
    private static void rust() {
        OneBarrel x = new OneBarrel();
        TestTools.due("rust of no barrel", x.rust(0, 1), false);
        x.tool(0);
        x.barrel(0);
        TestTools.due("no rust at first", x.of(0, 13), 0);
        TestTools.due("rust 99", x.rust(0, 99), true);
        TestTools.due("rust 100", x.rust(0, 100), false);
        TestTools.due("rust -1", x.rust(0, -1), false);
        TestTools.due("barrel 1", x.rust(1, 5), false);
        TestTools.due("barrel -1", x.rust(-1, 5), false);
        TestTools.due("rust as told", x.of(0, 13), 99);
        TestTools.due("the same again", x.rust(0, 99), true);
        TestTools.due("rust 0", x.rust(0, 0), true);
        TestTools.due("rust anew", x.of(0, 13), 0);
    }

    /** Promise 6. */
    private static void shot() {
        OneBarrel x = new OneBarrel();
        TestTools.due("shot of no barrel", x.shot(0, 0), -1);
        TestTools.laws(x, "take high - soft; wear high + 2;");
        x.tool(0);
        x.barrel(0);
        TestTools.due("shot", x.shot(0, 9), 0);
        TestTools.due("the ball", x.at(2, 0, 0), 23);
        TestTools.due("the barrel behind it", x.at(1, 0, 0), 34);
        TestTools.due("soft 10", x.shot(0, 10), -1);
        TestTools.due("soft -1", x.shot(0, -1), -1);
        TestTools.due("barrel 1", x.shot(1, 0), -1);
        TestTools.due("barrel -1", x.shot(-1, 0), -1);
        TestTools.due("no shot was one", x.of(0, 12), 1);
        for (int n = 1; n < 40; n++) {
            TestTools.due("shot " + n, x.shot(0, 0), n);
        }
        TestTools.due("the forty-first", x.shot(0, 0), -1);
        TestTools.due("shots", x.of(0, 12), 40);
        TestTools.due("the second ball", x.at(2, 1, 0), 34);
        TestTools.due("63 at most", x.at(2, 39, 0), 63);
    }

    /** Promise 7. */
    private static void found() {
        OneBarrel x = new OneBarrel();
        for (int n = 0; n < 40; n++) {
            TestTools.due("found " + n, x.found(), n);
        }
        TestTools.due("the forty-first", x.found(), -1);
        TestTools.due("found balls", x.look(6), 40);
        for (int i = 0; i < 32; i++) {
            TestTools.due("all hairs 0", x.at(2, 39, i), 0);
        }
        x.tool(0);
        x.barrel(0);
        TestTools.due("no shot more", x.shot(0, 0), -1);
        TestTools.due("nor counted", x.of(0, 12), 0);
    }

    /** Promise 8. */
    private static void hair() {
        OneBarrel x = new OneBarrel();
        TestTools.due("hair of no ball", x.hair(0, 0, 0), false);
        x.tool(0);
        x.barrel(0);
        x.shot(0, 0);
        x.found();
        TestTools.due("missing", x.hair(0, 31, -1), true);
        TestTools.due("63", x.hair(0, 0, 63), true);
        TestTools.due("of a found one", x.hair(1, 1, 5), true);
        int[][] wrong = {{-1, 0, 0}, {2, 0, 0}, {0, -1, 0}, {0, 32, 0}, {0, 4, 64}, {0, 4, -2}};
        for (int[] w : wrong) {
            TestTools.due("hair(" + w[0] + ", " + w[1] + ", " + w[2] + ")", x.hair(w[0], w[1], w[2]), false);
        }
        TestTools.due("hair 31", x.at(2, 0, 31), -1);
        TestTools.due("hair 0", x.at(2, 0, 0), 63);
        TestTools.due("hair 4 as it was", x.at(2, 0, 4), 32);
        TestTools.due("the barrel's stays", x.at(1, 0, 0), 32);
        TestTools.due("no longer missing", x.hair(0, 31, 7), true);
        TestTools.due("hair 31 anew", x.at(2, 0, 31), 7);
    }

    /** Promise 9. */
    private static void at() {
        OneBarrel x = new OneBarrel();
        x.tool(0);
        x.tool(0);
        x.edge(1, 7, 1);
        x.barrel(1);
        x.edge(1, 7, 2);
        x.shot(0, 0);
        x.hair(0, 7, 3);
        TestTools.due("at 0", x.at(0, 1, 7), 2);
        TestTools.due("at 1", x.at(1, 0, 7), 1);
        TestTools.due("at 2", x.at(2, 0, 7), 3);
        x.hair(0, 7, -1);
        TestTools.due("missing", x.at(2, 0, 7), -1);
        int[][] wrong = {{-1, 0, 0}, {3, 0, 0}, {0, 2, 0}, {1, 1, 0}, {2, 1, 0}, {0, -1, 0}, {1, -1, 0}, {2, -1, 0},
            {0, 0, 32}, {1, 0, 32}, {2, 0, 32}, {0, 0, -1}, {1, 0, -1}, {2, 0, -1}, {2, 40, 0}, {0, 6, 0}, {1, 16, 0}};
        for (int[] w : wrong) {
            TestTools.due("at(" + w[0] + ", " + w[1] + ", " + w[2] + ")", x.at(w[0], w[1], w[2]), -2);
        }
    }

    /** Promise 10. */
    private static void of() {
        OneBarrel x = new OneBarrel();
        x.tool(0);
        x.tool(0);
        x.barrel(1);
        x.barrel(0);
        x.barrel(1);
        x.shot(2, 4);
        x.shot(2, 9);
        x.found();
        x.rust(2, 12);
        x.hair(1, 0, -1);
        x.hair(1, 31, -1);
        int[][] ball = {{2, 0, 4, 0}, {2, 1, 9, 2}, {-1, -1, -1, 0}};
        int[][] barrel = {{1, 0, 0, 0}, {0, 0, 0, 0}, {1, 1, 2, 12}};
        for (int n = 0; n < 3; n++) {
            for (int what = 0; what < 4; what++) {
                TestTools.due("of(" + n + ", " + what + ")", x.of(n, what), ball[n][what]);
                TestTools.due("of(" + n + ", 1" + what + ")", x.of(n, 10 + what), barrel[n][what]);
            }
        }
        int[][] wrong = {{0, -1}, {0, 4}, {0, 9}, {0, 14}, {3, 0}, {-1, 0}, {3, 10}, {-1, 10}, {40, 0}, {16, 13},
            {0, Integer.MIN_VALUE}, {0, Integer.MAX_VALUE}};
        for (int[] w : wrong) {
            TestTools.due("of(" + w[0] + ", " + w[1] + ")", x.of(w[0], w[1]), -2);
        }
    }

    /** Promise 30. */
    private static void look() {
        OneBarrel x = new OneBarrel();
        x.tool(0);
        x.tool(0);
        for (int n = 0; n < 3; n++) {
            x.barrel(0);
        }
        for (int n = 0; n < 4; n++) {
            x.shot(0, 0);
        }
        x.found();
        for (int n = 0; n < 5; n++) {
            x.looker(n);
        }
        for (int n = 0; n < 6; n++) {
            x.pair(0, 1, 1);
        }
        TestTools.laws(x, "cut 1; cut 2; wear 3; take 4; cut 5; take 6; take 7;");
        int[] due = {2, 3, 5, 5, 6, 7, 1};
        for (int what = 0; what < 7; what++) {
            TestTools.due("look(" + what + ")", x.look(what), due[what]);
        }
        TestTools.due("look(-1)", x.look(-1), -1);
        TestTools.due("look(7)", x.look(7), -1);
    }

    /** What each keyword of the laws tells; the row changes all at once. */
    private static void facts() {
        TestTools.due("at", ballBy("take at;", 5), 5);
        TestTools.due("high", ballBy("take high + 1;", 5), 26);
        TestTools.due("left", ballBy("take left;", 5), 24);
        TestTools.due("left of 0", ballBy("take left;", 0), 51);
        TestTools.due("right", ballBy("take right;", 5), 26);
        TestTools.due("right of 31", ballBy("take right;", 31), 20);
        TestTools.due("rust", ballBy("take rust;", 5), 17);
        TestTools.due("soft", ballBy("take soft;", 5), 3);
        TestTools.due("shots", ballBy("take shots;", 5), 2);
        TestTools.due("soft for wear", barrelBy("wear soft;"), 3);
        TestTools.due("rust for wear", barrelBy("wear rust;"), 17);
        TestTools.due("shots for wear, ahead of this one", barrelBy("wear shots + 40;"), 42);
        TestTools.due("another law's line", ballBy("wear 1; cut 2;", 5), 25);
        TestTools.due("the first line whose B is so", ballBy("take 1 when at > 5; take 2 when at = 5; take 3;", 5), 2);
        TestTools.due("a line without B", ballBy("take 1 when at > 5; take 2; take 3;", 5), 2);
        TestTools.due("no line", ballBy("take 1 when at > 5;", 5), 25);
        TestTools.due("0 at least", ballBy("take high - 100;", 5), 0);
        TestTools.due("63 at most", ballBy("take high + 100;", 5), 63);
        TestTools.due("cut: soft is 0", edgeBy("cut soft + 40;"), 40);
        TestTools.due("cut: rust is 0", edgeBy("cut rust + 40;"), 40);
        TestTools.due("cut: shots are the barrels cut", edgeBy("cut shots * 10;"), 30);
    }

    /** Hair i of the third shot of a barrel whose hairs are 20 + i, with rust 17 and soft 3. */
    private static int ballBy(String laws, int i) {
        OneBarrel x = gun();
        TestTools.laws(x, laws);
        x.shot(0, 3);
        return x.at(2, 2, i);
    }

    private static int barrelBy(String laws) {
        OneBarrel x = gun();
        TestTools.laws(x, laws);
        x.shot(0, 3);
        return x.at(1, 0, 9);
    }

    private static int edgeBy(String laws) {
        OneBarrel x = gun();
        x.rust(0, 99);
        x.barrel(0);
        TestTools.laws(x, laws);
        x.barrel(0);
        return x.at(0, 0, 9);
    }

    private static OneBarrel gun() {
        OneBarrel x = new OneBarrel();
        x.tool(0);
        for (int i = 0; i < 32; i++) {
            x.edge(0, i, 20 + i);
        }
        x.barrel(0);
        x.rust(0, 17);
        x.shot(0, 0);
        x.shot(0, 0);
        return x;
    }

    /** A draw for each hair of each change, asked or not: the tool's by cut, the barrel's by take, then by wear. */
    private static void draws() {
        int[] starts = {0, 1, -77, Integer.MAX_VALUE};
        for (int start : starts) {
            OneBarrel x = new OneBarrel();
            x.tool(start);
            x.barrel(0);
            TestTools.laws(x, "cut draw;");
            x.barrel(0);
            TestTools.laws(x, "take draw when at > 3;");
            x.shot(0, 0);
            TestTools.laws(x, "take draw; wear draw;");
            x.shot(0, 0);
            x.shot(1, 0);
            for (int i = 0; i < 32; i++) {
                TestTools.due("cut's draw behind one cut", x.at(0, 0, i), drawAfter(start, 32 + i));
                TestTools.due("take's first draw", x.at(2, 0, i), i > 3 ? drawAfter(start, i) : 32);
                TestTools.due("take's draw behind one shot", x.at(2, 1, i), drawAfter(start, 64 + i));
                TestTools.due("wear's draw behind it", x.at(1, 0, i), drawAfter(start, 96 + i));
                TestTools.due("the second barrel has the tool's state", x.at(2, 2, i), drawAfter(start, 32 + i));
            }
        }
    }

    private static int drawAfter(int start, int draws) {
        long state = start;
        for (int n = 0; n <= draws; n++) {
            state = (1664525L * state + 1013904223L) & 0xFFFFFFFFL;
        }
        return (int) (state >> 28);
    }
}
