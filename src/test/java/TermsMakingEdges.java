import java.math.BigInteger;

/** The edges that part 1 of "Terms" names: rows, tools, barrels, balls, draws, how a row changes. */
final class TermsMakingEdges {
    private static final int[] STATES = {0, 1, -1, Trial.MIN, Trial.MAX, 1234567890};

    private TermsMakingEdges() {
    }

    static void add(Edges edges) {
        edges.of("The constants", "`NONE = -1`: None.", TermsMakingEdges::none);
        edges.of("What it is", "An object is used for at most 512 calls after it has been made; what later calls answer is"
                + " free.", TermsMakingEdges::lastCall);
        edges.terms(1, "A ROW is 32 HAIRS 0 .. 31", TermsMakingEdges::hairs);
        edges.terms(1, "round a ball (0 is beside 31)", TermsMakingEdges::hairsRound);
        edges.terms(1, "each a height 0 .. 63 or MISSING.", TermsMakingEdges::heights);
        edges.terms(1, "TOOLS 0 .. 5 as they come", TermsMakingEdges::tools);
        edges.terms(1, "have an EDGE (a ROW, all 32 at first)", TermsMakingEdges::edgeAtFirst);
        edges.terms(1, "a STATE (an int, told).", TermsMakingEdges::stateTold);
        edges.terms(1, "BARRELS 0 .. 15 as they come: a TOOL cuts one:", TermsMakingEdges::barrels);
        edges.terms(1, "it has the EDGE as its ROW", TermsMakingEdges::barrelRow);
        edges.terms(1, "the STATE as its own", TermsMakingEdges::barrelState);
        edges.terms(1, "no SHOTS, no RUST;", TermsMakingEdges::newBarrel);
        edges.terms(1, "then the EDGE changes by the LAW cut.", TermsMakingEdges::edgeChanges);
        edges.terms(1, "BALLS 0 .. 39 as they come:", TermsMakingEdges::balls);
        edges.terms(1, "a SHOT of a BARREL, SOFT 0 .. 9:", TermsMakingEdges::softs);
        edges.terms(1, "its ROW is that of the BARREL changed by the LAW take;", TermsMakingEdges::ballRow);
        edges.terms(1, "then the BARREL's changes by the LAW wear, and it has one SHOT more.", TermsMakingEdges::wear);
        edges.terms(1, "Other BALLS are FOUND: of no BARREL that is known (all HAIRS 0 at first).",
                TermsMakingEdges::foundBalls);
        edges.terms(1, "RUST 0 .. 99 of a BARREL is told.", TermsMakingEdges::rusts);
        edges.terms(1, "A ROW changes by a LAW all at once:", TermsMakingEdges::allAtOnce);
        edges.terms(1, "for each HAIR, 0 first, a DRAW is made (asked or not):", TermsMakingEdges::drawsAskedOrNot);
        edges.terms(1, "STATE becomes 1664525 STATE + 1013904223 (ints, which wrap),", TermsMakingEdges::stateWraps);
        edges.terms(1, "the DRAW are its highest four bits (0 .. 15).", TermsMakingEdges::highestBits);
        edges.terms(1, "Then the first line of this LAW whose B is so (or that has none)", TermsMakingEdges::firstLine);
        edges.terms(1, "tells the new height (0 at least, 63 at most);", TermsMakingEdges::heightLimits);
        edges.terms(1, "without one the height stays.", TermsMakingEdges::heightStays);
        edges.terms(1, "HAIRS of BALLS may be told anew, also as MISSING.", TermsMakingEdges::toldAnew);
    }

    /** The draws behind the first `skipped` ones, by the document's numbers in longs, which do not wrap by themselves. */
    static int[] draws(int state, int skipped) {
        long s = state & 0xFFFFFFFFL;
        int[] draws = new int[32];
        for (int n = 0; n < skipped + 32; n++) {
            s = (1664525L * s + 1013904223L) % (1L << 32);
            if (n >= skipped) {
                draws[n - skipped] = (int) (s / (1L << 28));
            }
        }
        return draws;
    }

    private static int[] flat(int height) {
        int[] row = new int[32];
        java.util.Arrays.fill(row, height);
        return row;
    }

    private static void none() {
        new Trial().due(OneBarrel.NONE, -1);
    }

    private static void lastCall() {
        Trial t = new Trial();
        t.looker(0);
        t.tool(7);
        t.laws("cut draw;");
        t.barrel(0);
        t.found();
        while (t.calls() < 508) {
            t.due(t.hair(0, t.calls() % 32, t.calls() % 64), true);
        }
        t.due(t.look(2), 1);
        t.due(t.at(0, 0, 0), draws(7, 0)[0]);
        t.due(t.barrel(0), 1);
        t.due(t.slid(0, 0, 0, 2), 32);
    }

    private static void hairs() {
        Trial t = Trial.gun();
        t.shot(0, 0);
        for (int what = 0; what < 3; what++) {
            t.due(t.at(what, 0, 0), 32);
            t.due(t.at(what, 0, 31), 32);
            t.due(t.at(what, 0, -1), -2);
            t.due(t.at(what, 0, 32), -2);
        }
        t.due(t.edge(0, 0, 1), true);
        t.due(t.edge(0, 31, 1), true);
        t.due(t.edge(0, -1, 1), false);
        t.due(t.edge(0, 32, 1), false);
        t.due(t.hair(0, 0, 1), true);
        t.due(t.hair(0, 31, 1), true);
        t.due(t.hair(0, -1, 1), false);
        t.due(t.hair(0, 32, 1), false);
    }

    private static void hairsRound() {
        Trial t = new Trial();
        t.tool(0);
        t.edge(0, 0, 9);
        t.edge(0, 31, 7);
        t.barrel(0);
        t.laws("take left;");
        t.due(t.shot(0, 0), 0);
        t.due(t.at(2, 0, 0), 7);
        t.laws("take right;");
        t.due(t.shot(0, 0), 1);
        t.due(t.at(2, 1, 31), 9);
        t.looker(0);
        // Hair 31 of the one lies beside hair 0 of the other.
        t.due(t.slid(0, 0, 1, 2), 32);
        t.due(t.slid(0, 0, 1, 1), 30);
    }

    private static void heights() {
        Trial t = new Trial();
        t.tool(0);
        t.found();
        for (int v : new int[] {0, 1, 62, 63}) {
            t.due(t.edge(0, 3, v), true);
            t.due(t.at(0, 0, 3), v);
            t.due(t.hair(0, 3, v), true);
            t.due(t.at(2, 0, 3), v);
        }
        t.due(t.hair(0, 3, Trial.NONE), true);
        t.due(t.at(2, 0, 3), Trial.NONE);
        for (int v : new int[] {-2, 64, Trial.MIN, Trial.MAX}) {
            t.due(t.edge(0, 3, v), false);
            t.due(t.at(0, 0, 3), 63);
            t.due(t.hair(0, 3, v), false);
            t.due(t.at(2, 0, 3), Trial.NONE);
        }
        t.due(t.of(0, 3), 1);
    }

    private static void tools() {
        Trial t = new Trial();
        t.due(t.edge(0, 0, 1), false);
        for (int n = 0; n < 6; n++) {
            t.due(t.tool(n), n);
            t.due(t.edge(n, 0, n), true);
            t.due(t.edge(n + 1, 0, n), false);
        }
        for (int n = 0; n < 6; n++) {
            t.due(t.at(0, n, 0), n);
        }
        t.due(t.tool(6), Trial.NONE);
        t.due(t.at(0, 6, 0), -2);
        t.due(t.at(0, -1, 0), -2);
    }

    private static void edgeAtFirst() {
        Trial t = new Trial();
        t.laws("cut 5; wear 6; take 7;");
        for (int n = 0; n < 6; n++) {
            t.tool(n - 3);
            t.dueRow(0, n, flat(32));
        }
    }

    private static void stateTold() {
        Trial t = new Trial();
        t.laws("cut draw;");
        for (int n = 0; n < 6; n++) {
            t.due(t.tool(STATES[n]), n);
            t.barrel(n);
            t.dueRow(0, n, draws(STATES[n], 0));
        }
    }

    private static void barrels() {
        Trial t = new Trial();
        t.tool(0);
        t.tool(1);
        t.due(t.rust(0, 1), false);
        for (int n = 0; n < 16; n++) {
            t.due(t.barrel(n % 2), n);
            t.due(t.rust(n, n), true);
            t.due(t.rust(n + 1, n), false);
        }
        for (int n = 0; n < 16; n++) {
            t.due(t.of(n, 13), n);
            t.due(t.of(n, 10), n % 2);
        }
        t.due(t.barrel(0), Trial.NONE);
        t.due(t.of(16, 13), -2);
        t.due(t.of(-1, 13), -2);
    }

    private static void barrelRow() {
        Trial t = new Trial();
        t.tool(0);
        t.laws("cut high+1; wear 5;");
        t.edge(0, 0, 0);
        t.edge(0, 31, 63);
        t.barrel(0);
        int[] row = flat(32);
        row[0] = 0;
        row[31] = 63;
        t.dueRow(1, 0, row);
        t.barrel(0);
        int[] next = flat(33);
        next[0] = 1;
        next[31] = 63;
        t.dueRow(1, 1, next);
        // It is the barrel's own from then on: neither changes with the other.
        t.edge(0, 4, 50);
        t.due(t.at(1, 1, 4), 33);
        t.shot(1, 0);
        t.due(t.at(1, 1, 4), 5);
        t.due(t.at(0, 0, 4), 50);
        t.due(t.at(1, 0, 4), 32);
    }

    private static void barrelState() {
        Trial t = new Trial();
        t.tool(99);
        t.barrel(0);
        t.barrel(0);
        t.laws("take draw;");
        // The first was cut ahead of all draws, the second behind the 32 of the first cut.
        t.shot(1, 0);
        t.shot(0, 0);
        t.dueRow(2, 0, draws(99, 32));
        t.dueRow(2, 1, draws(99, 0));
        // The barrels' draws are none of the tool's.
        t.laws("cut draw;");
        t.barrel(0);
        t.dueRow(0, 0, draws(99, 64));
        // A shot's draws are 32 by take and 32 by wear.
        t.laws("take draw; wear draw;");
        t.shot(0, 0);
        t.dueRow(2, 2, draws(99, 64));
        t.dueRow(1, 0, draws(99, 96));
    }

    private static void newBarrel() {
        Trial t = new Trial();
        t.tool(0);
        t.barrel(0);
        t.rust(0, 50);
        t.shot(0, 0);
        t.barrel(0);
        t.due(t.of(1, 12), 0);
        t.due(t.of(1, 13), 0);
        t.laws("take shots; wear rust;");
        t.shot(1, 0);
        t.due(t.at(2, 1, 0), 0);
        t.due(t.at(1, 1, 0), 0);
    }

    private static void edgeChanges() {
        Trial t = new Trial();
        t.tool(0);
        t.tool(0);
        t.laws("wear 1; take 2; cut 7;");
        t.barrel(0);
        t.dueRow(0, 0, flat(7));
        t.dueRow(1, 0, flat(32));
        t.due(t.at(0, 1, 0), 32);
        t.edge(0, 0, 9);
        t.shot(0, 0);
        t.due(t.at(0, 0, 0), 9);
        t.due(t.at(0, 0, 1), 7);
    }

    private static void balls() {
        Trial t = Trial.gun();
        t.due(t.hair(0, 0, 1), false);
        for (int n = 0; n < 40; n++) {
            t.due(n % 3 == 0 ? t.found() : t.shot(0, 0), n);
            t.due(t.hair(n, 0, n), true);
            t.due(t.hair(n + 1, 0, n), false);
        }
        for (int n = 0; n < 40; n++) {
            t.due(t.at(2, n, 0), n);
        }
        t.due(t.found(), Trial.NONE);
        t.due(t.shot(0, 0), Trial.NONE);
        t.due(t.at(2, 40, 0), -2);
        t.due(t.at(2, -1, 0), -2);
    }

    private static void softs() {
        Trial t = Trial.gun();
        t.laws("take soft;");
        for (int soft = 0; soft <= 9; soft++) {
            t.due(t.shot(0, soft), soft);
            t.due(t.of(soft, 2), soft);
            t.due(t.at(2, soft, 0), soft);
        }
        t.due(t.shot(0, -1), Trial.NONE);
        t.due(t.shot(0, 10), Trial.NONE);
        t.due(t.look(2), 10);
    }

    private static void ballRow() {
        Trial t = new Trial();
        t.tool(0);
        t.edge(0, 0, 0);
        t.edge(0, 31, 63);
        t.barrel(0);
        t.laws("cut 3; take high-1 when at<16;");
        t.shot(0, 0);
        int[] row = flat(31);
        java.util.Arrays.fill(row, 16, 32, 32);
        row[0] = 0;
        row[31] = 63;
        t.dueRow(2, 0, row);
        t.due(t.at(1, 0, 1), 32);
        t.due(t.at(1, 0, 31), 63);
        // Without laws it is the barrel's row itself.
        t.laws();
        t.shot(0, 0);
        t.due(t.at(2, 1, 1), 32);
        t.due(t.at(2, 1, 0), 0);
    }

    private static void wear() {
        Trial t = Trial.gun();
        t.barrel(0);
        t.laws("wear high+2;");
        t.due(t.of(0, 12), 0);
        t.shot(0, 0);
        t.due(t.of(0, 12), 1);
        t.dueRow(2, 0, flat(32));
        t.dueRow(1, 0, flat(34));
        t.shot(0, 0);
        t.due(t.of(0, 12), 2);
        t.due(t.at(2, 1, 5), 34);
        t.due(t.at(1, 0, 5), 36);
        // The other barrel neither wears nor shoots.
        t.due(t.at(1, 1, 5), 32);
        t.due(t.of(1, 12), 0);
    }

    private static void foundBalls() {
        Trial t = Trial.gun();
        t.laws("take 5; wear 6;");
        t.found();
        t.dueRow(2, 0, flat(0));
        t.due(t.of(0, 0), Trial.NONE);
        t.due(t.of(0, 1), Trial.NONE);
        t.due(t.of(0, 2), Trial.NONE);
        t.due(t.of(0, 3), 0);
        t.due(t.at(1, 0, 0), 32);
        t.due(t.of(0, 12), 0);
    }

    private static void rusts() {
        Trial t = Trial.gun();
        for (int v : new int[] {0, 1, 98, 99}) {
            t.due(t.rust(0, v), true);
            t.due(t.of(0, 13), v);
        }
        for (int v : new int[] {-1, 100, Trial.MIN, Trial.MAX}) {
            t.due(t.rust(0, v), false);
            t.due(t.of(0, 13), 99);
        }
    }

    private static void allAtOnce() {
        Trial t = new Trial();
        t.tool(0);
        t.laws("cut at;");
        t.barrel(0);
        t.barrel(0);
        // Barrel 1 has 0 .. 31: each hair takes the height that the one beside it had ahead of the change.
        int[] fromLeft = new int[32];
        int[] fromRight = new int[32];
        for (int i = 0; i < 32; i++) {
            fromLeft[i] = (i + 31) % 32;
            fromRight[i] = (i + 1) % 32;
        }
        t.laws("take left; cut right;");
        t.shot(1, 0);
        t.dueRow(2, 0, fromLeft);
        t.laws("wear right;");
        t.shot(1, 0);
        t.dueRow(1, 1, fromRight);
        t.laws("cut left;");
        t.barrel(0);
        t.dueRow(0, 0, fromLeft);
    }

    private static void drawsAskedOrNot() {
        Trial t = new Trial();
        t.tool(5);
        // Without laws, and by laws that do not ask, 32 draws are made all the same.
        t.barrel(0);
        t.laws("cut 1 when at=40;");
        t.barrel(0);
        t.laws("take draw; cut 3;");
        t.barrel(0);
        t.laws("cut draw;");
        t.barrel(0);
        t.dueRow(0, 0, draws(5, 96));
        // Hair 31 gets the draw behind those of hairs 0 .. 30, also if those do not ask.
        t.laws("cut draw when at=31;");
        t.barrel(0);
        t.due(t.at(0, 0, 31), draws(5, 128)[31]);
        // Lines that are not the one that tells the height make no draws of their own.
        t.laws("cut draw when draw>20; cut draw+draw-draw when draw<99; cut draw;");
        t.barrel(0);
        t.dueRow(0, 0, draws(5, 160));
    }

    private static void stateWraps() {
        for (int state : STATES) {
            Trial t = new Trial();
            t.tool(state);
            t.laws("cut draw;");
            for (int n = 0; n < 4; n++) {
                t.barrel(0);
                t.dueRow(0, 0, draws(state, 32 * n));
            }
        }
    }

    private static void highestBits() {
        int[] becomes = {0, 0x0FFFFFFF, 0x10000000, 0x7FFFFFFF, 0x80000000, 0x8FFFFFFF, 0xEFFFFFFF, 0xF0000000, -1};
        int[] draws = {0, 0, 1, 7, 8, 8, 14, 15, 15};
        for (int n = 0; n < becomes.length; n++) {
            Trial t = new Trial();
            t.tool(stateAheadOf(becomes[n]));
            t.laws("cut draw;");
            t.barrel(0);
            t.due(t.at(0, 0, 0), draws[n]);
        }
    }

    /** The state that becomes this one by one draw. */
    private static int stateAheadOf(int state) {
        BigInteger all = BigInteger.ONE.shiftLeft(32);
        BigInteger factor = BigInteger.valueOf(1664525).modInverse(all);
        return BigInteger.valueOf(state).subtract(BigInteger.valueOf(1013904223)).multiply(factor).mod(all).intValue();
    }

    private static void firstLine() {
        dueTaken("take 1 when 1=2; take 2 when 1=1; take 3 when 1=1;", 2);
        dueTaken("take 1 when 1=2; take 2; take 3;", 2);
        dueTaken("take 1; take 2 when 1=1;", 1);
        dueTaken("cut 1; wear 2; take 3;", 3);
        dueTaken("cut 1 when 1=1; wear 2 when 1=1; take 3 when 1=1; take 4;", 3);
        dueTaken("take 1 when 1=2;".repeat(15) + "take 16;", 16);
        dueTaken("take 1 when 1=2;".repeat(15) + "take 16 when 1=1;", 16);
        dueTaken("take 1 when 1=2;".repeat(15) + "take 1+2*3 when 1=2 or 1=1 and (1=2 or 1+1<1+2*3);", 7);
        // Each hair has the first line that is so for it.
        Trial t = Trial.gun();
        t.ball("take 1 when at<1; take 2 when at<31; take 3;");
        t.due(t.at(2, 0, 0), 1);
        t.due(t.at(2, 0, 1), 2);
        t.due(t.at(2, 0, 30), 2);
        t.due(t.at(2, 0, 31), 3);
    }

    private static void dueTaken(String laws, int height) {
        Trial t = Trial.gun();
        t.ball(laws);
        t.due(t.at(2, 0, 0), height);
    }

    private static void heightLimits() {
        String[] sums = {"0-1", "0", "1", "62", "63", "64", "9999", "0-9999", "9999*9999*22", "9999*9999*21"};
        // 9999 * 9999 * 22 wraps below 0, 9999 * 9999 * 21 does not yet.
        int[] heights = {0, 0, 1, 62, 63, 63, 63, 0, 0, 63};
        for (int n = 0; n < sums.length; n++) {
            for (String law : new String[] {"cut ", "take ", "wear "}) {
                Trial t = new Trial();
                t.tool(0);
                t.laws(law + sums[n] + ";");
                t.barrel(0);
                t.shot(0, 0);
                int what = law.equals("cut ") ? 0 : law.equals("wear ") ? 1 : 2;
                t.due(t.at(what, 0, 0), heights[n]);
                t.due(t.at(what, 0, 31), heights[n]);
            }
        }
    }

    private static void heightStays() {
        for (String laws : new String[] {"", "take 1 when at>31;", "take 1 when 1=2; take 2 when 2=3;"}) {
            Trial t = new Trial();
            t.tool(0);
            t.edge(0, 0, 0);
            t.edge(0, 31, 63);
            t.barrel(0);
            t.laws(laws);
            t.shot(0, 0);
            t.due(t.at(2, 0, 0), 0);
            t.due(t.at(2, 0, 1), 32);
            t.due(t.at(2, 0, 31), 63);
        }
        Trial t = Trial.gun();
        t.laws("take 1;");
        t.barrel(0);
        t.shot(0, 0);
        t.due(t.at(0, 0, 5), 32);
        t.due(t.at(1, 0, 5), 32);
        t.laws("take 1 when at=5;");
        t.shot(0, 0);
        t.due(t.at(2, 1, 4), 32);
        t.due(t.at(2, 1, 5), 1);
        t.due(t.at(2, 1, 6), 32);
    }

    private static void toldAnew() {
        Trial t = Trial.gun();
        t.shot(0, 0);
        t.found();
        for (int ball = 0; ball < 2; ball++) {
            int[] told = {5, Trial.NONE, Trial.NONE, 63, 0, Trial.NONE, 9};
            for (int v : told) {
                t.due(t.hair(ball, 31, v), true);
                t.due(t.at(2, ball, 31), v);
                t.due(t.of(ball, 3), v == Trial.NONE ? 1 : 0);
            }
        }
        // The barrel's own row does not change with its ball's.
        t.due(t.at(1, 0, 31), 32);
        t.shot(0, 0);
        t.due(t.at(2, 2, 31), 32);
    }
}
