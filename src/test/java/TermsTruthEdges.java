/** The edges that part 4 of "Terms" names: truth, odds, how far, what is a ball's own, lists. */
final class TermsTruthEdges {
    private TermsTruthEdges() {
    }

    static void add(Edges edges) {
        edges.terms(4, "Of two BALLS, both SHOT, the TRUTH is", TermsTruthEdges::truthOfShot);
        edges.terms(4, "0 one BARREL's, 1 KIN (unlike BARRELS of one TOOL), 2 STRANGE.", TermsTruthEdges::truths);
        edges.terms(4, "ODDS of a LONGEST of n and more by a LOOKER:", TermsTruthEdges::oddsOfN);
        edges.terms(4, "of all pairs of SHOT BALLS", TermsTruthEdges::oddsOfShot);
        edges.terms(4, "(the lesser number first)", TermsTruthEdges::oddsOrder);
        edges.terms(4, "of a TRUTH how many have that, and how many there are.", TermsTruthEdges::oddsCounts);
        edges.terms(4, "FAR: the least number of SHOTS between two BALLS of one BARREL", TermsTruthEdges::farLeast);
        edges.terms(4, "(the difference of their numbers as its SHOTS)", TermsTruthEdges::farDifference);
        edges.terms(4, "for which some such pair, in the whole store,", TermsTruthEdges::farWholeStore);
        edges.terms(4, "has a LONGEST below n.", TermsTruthEdges::farBelow);
        edges.terms(4, "OWN of a BALL beside two others: HAIRS of it which RUN under BEST with the first but not with the"
                + " second;", TermsTruthEdges::own);
        edges.terms(4, "KIN those that RUN with both", TermsTruthEdges::kin);
        edges.terms(4, "(as sets: HAIR i counts 2 to the i).", TermsTruthEdges::sets);
        edges.terms(4, "A LIST for a BALL by a LOOKER: all others", TermsTruthEdges::listAllOthers);
        edges.terms(4, "by MANY of BEST, the greatest first,", TermsTruthEdges::listByMany);
        edges.terms(4, "then by LONGEST,", TermsTruthEdges::listByLongest);
        edges.terms(4, "then by number", TermsTruthEdges::listByNumber);
        edges.terms(4, "(the ROW of the one for which it is comes first).", TermsTruthEdges::listOrder);
    }

    /** Tool 0 with barrels 0 and 1, tool 1 with barrel 2, and a looker of margin 0. */
    private static Trial guns() {
        Trial t = new Trial();
        t.tool(0);
        t.tool(0);
        t.barrel(0);
        t.barrel(0);
        t.barrel(1);
        t.looker(0);
        return t;
    }

    private static void truthOfShot() {
        Trial t = Trial.gun();
        t.shot(0, 0);
        t.found();
        t.found();
        t.shot(0, 0);
        t.due(t.truth(0, 3), 0);
        t.due(t.truth(0, 1), Trial.NONE);
        t.due(t.truth(1, 0), Trial.NONE);
        t.due(t.truth(2, 3), Trial.NONE);
        t.due(t.truth(1, 2), Trial.NONE);
    }

    private static void truths() {
        Trial t = guns();
        t.shot(0, 0);
        t.shot(0, 9);
        t.shot(1, 0);
        t.shot(2, 0);
        int[][] dues = {{0, 1, 0}, {1, 0, 0}, {0, 2, 1}, {2, 1, 1}, {0, 3, 2}, {3, 2, 2}};
        for (int[] due : dues) {
            t.due(t.truth(due[0], due[1]), due[2]);
        }
        // Barrels of one number among their tools' are strange all the same.
        t.due(t.of(0, 11), 0);
        t.due(t.of(2, 11), 0);
        t.due(t.truth(3, 0), 2);
    }

    private static void oddsOfN() {
        Trial t = Trial.gunAndLookers(0, 15);
        t.ball(Rows.STAIRS);
        t.ball(Rows.STAIRS);
        t.hair(1, 0, 63);
        t.hair(1, 20, 63);
        // Hairs 1 .. 19 run one behind the other.
        int[][] dues = {{0, 1}, {18, 1}, {19, 1}, {20, 0}, {32, 0}};
        for (int[] due : dues) {
            t.due(t.odds(0, due[0], 0, 0), due[1]);
            t.due(t.odds(0, due[0], 0, 1), 1);
        }
        t.hair(1, 0, 0);
        t.hair(1, 20, 40);
        t.due(t.odds(0, 32, 0, 0), 1);
        // A longest of 0 is 0 and more.
        t.lack(1, 32);
        t.due(t.odds(0, 0, 0, 0), 1);
        t.due(t.odds(0, 1, 0, 0), 0);
        t.due(t.odds(1, 0, 0, 0), 1);
        t.due(t.odds(1, 1, 0, 0), 0);
    }

    private static void oddsOfShot() {
        Trial t = guns();
        t.found();
        t.found();
        for (int truth = 0; truth < 3; truth++) {
            t.due(t.odds(0, 0, truth, 0), 0);
            t.due(t.odds(0, 0, truth, 1), 0);
        }
        t.shot(0, 0);
        t.due(t.odds(0, 0, 0, 1), 0);
        t.shot(0, 0);
        t.found();
        t.due(t.odds(0, 0, 0, 0), 1);
        t.due(t.odds(0, 0, 0, 1), 1);
        t.due(t.odds(0, 0, 1, 1), 0);
        t.due(t.odds(0, 0, 2, 1), 0);
        // As many as there can be.
        while (t.look(2) < 40) {
            t.shot(0, 0);
        }
        t.due(t.odds(0, 32, 0, 0), 37 * 36 / 2);
        t.due(t.odds(0, 0, 0, 1), 37 * 36 / 2);
        Trial full = Trial.gunAndLookers(0);
        for (int n = 0; n < 40; n++) {
            full.shot(0, 0);
        }
        full.due(full.odds(0, 32, 0, 0), 780);
        full.due(full.odds(0, 32, 0, 1), 780);
    }

    private static void oddsOrder() {
        Trial t = Trial.gunAndLookers(0);
        t.ball(Rows.ONE);
        t.ball(Rows.OTHER);
        t.due(t.odds(0, 1, 0, 0), 1);
        t.due(t.odds(0, 2, 0, 0), 0);
        Trial other = Trial.gunAndLookers(0);
        other.ball(Rows.OTHER);
        other.ball(Rows.ONE);
        other.due(other.odds(0, 3, 0, 0), 1);
        other.due(other.odds(0, 4, 0, 0), 0);
        // Each pair once.
        other.due(other.odds(0, 0, 0, 1), 1);
    }

    private static void oddsCounts() {
        Trial t = guns();
        t.laws(Rows.STAIRS);
        int[] guns = {0, 1, 2, 0, 1, 0};
        for (int gun : guns) {
            t.shot(gun, 0);
        }
        int[] counts = {4, 6, 5};
        for (int truth = 0; truth < 3; truth++) {
            t.due(t.odds(0, 32, truth, 0), counts[truth]);
            t.due(t.odds(0, 32, truth, 1), counts[truth]);
        }
        // Ball 5, of barrel 0, has lost hair 9: its pairs are two of one barrel's, two of kin, a strange one.
        t.hair(5, 9, Trial.NONE);
        int[] left = {2, 4, 4};
        for (int truth = 0; truth < 3; truth++) {
            t.due(t.odds(0, 32, truth, 0), left[truth]);
            t.due(t.odds(0, 31, truth, 0), counts[truth]);
            t.due(t.odds(0, 32, truth, 1), counts[truth]);
        }
    }

    /** Barrel 0 shoots flat balls, each one higher by 1 than the one ahead. */
    private static Trial rising(int margin, int shots) {
        Trial t = Trial.gunAndLookers(margin);
        t.laws("wear high+1;");
        for (int n = 0; n < shots; n++) {
            t.shot(0, 0);
        }
        return t;
    }

    private static void farLeast() {
        Trial t = rising(2, 5);
        t.due(t.far(0, 1), 3);
        t.due(t.far(0, 32), 3);
        t.due(t.far(0, 33), 1);
        t.due(t.far(0, 0), Trial.NONE);
        Trial near = rising(0, 5);
        near.due(near.far(0, 1), 1);
        Trial none = rising(4, 5);
        none.due(none.far(0, 32), Trial.NONE);
        Trial last = rising(3, 5);
        last.due(last.far(0, 32), 4);
        // One ball alone, or balls of unlike barrels, are no pair.
        Trial one = rising(0, 1);
        one.due(one.far(0, 33), Trial.NONE);
        one.barrel(0);
        one.shot(1, 0);
        one.found();
        one.due(one.far(0, 33), Trial.NONE);
        // From the first shot to the fortieth: these two have each lost a hair that the other has.
        Trial all = Trial.gunAndLookers(0);
        all.laws(Rows.STAIRS);
        for (int n = 0; n < 40; n++) {
            all.shot(0, 0);
        }
        all.hair(0, 0, Trial.NONE);
        all.hair(39, 16, Trial.NONE);
        all.due(all.far(0, 32), 1);
        all.due(all.far(0, 31), 39);
    }

    private static void farDifference() {
        Trial t = Trial.gunAndLookers(0);
        t.barrel(0);
        t.laws(Rows.STAIRS);
        t.shot(0, 0);
        t.found();
        t.found();
        t.shot(1, 0);
        t.shot(0, 0);
        t.found();
        t.shot(0, 0);
        // Balls 0, 4 and 6 are shots 0, 1 and 2.
        t.due(t.far(0, 33), 1);
        t.due(t.far(0, 32), Trial.NONE);
        t.hair(0, 3, 63);
        t.hair(4, 3, Trial.NONE);
        t.due(t.far(0, 31), Trial.NONE);
        t.due(t.far(0, 32), 1);
        t.looker(1);
        t.hair(0, 3, 5);
        t.hair(4, 3, 6);
        t.hair(6, 3, 7);
        t.due(t.far(1, 32), 2);
    }

    private static void farWholeStore() {
        Trial t = Trial.gunAndLookers(2);
        t.barrel(0);
        t.laws("wear high+1;");
        for (int n = 0; n < 4; n++) {
            t.shot(0, 0);
        }
        t.laws("wear high+2;");
        for (int n = 0; n < 3; n++) {
            t.shot(1, 0);
        }
        // Barrel 0 has 3, barrel 1 has 2.
        t.due(t.far(0, 32), 2);
        t.hair(6, 0, 63);
        t.due(t.far(0, 32), 1);
        // One such pair is enough, the first as well as the last.
        Trial first = rising(3, 5);
        first.due(first.far(0, 32), 4);
        first.hair(0, 0, 63);
        first.due(first.far(0, 32), 1);
    }

    private static void farBelow() {
        Trial t = Trial.gunAndLookers(0);
        t.ball(Rows.STAIRS);
        t.ball(Rows.STAIRS);
        t.hair(1, 0, 63);
        t.hair(1, 20, 63);
        t.due(t.far(0, 19), Trial.NONE);
        t.due(t.far(0, 20), 1);
        t.lack(1, 32);
        t.due(t.far(0, 0), Trial.NONE);
        t.due(t.far(0, 1), 1);
        Trial order = Trial.gunAndLookers(0);
        order.ball(Rows.ONE);
        order.ball(Rows.OTHER);
        order.due(order.far(0, 1), Trial.NONE);
        order.due(order.far(0, 2), 1);
    }

    /** Ball 1 has lost hair 31 beside ball 0's 31; ball 2, turned by 1, hair 1 beside ball 0's 0; ball 3 never runs. */
    private static Trial three() {
        Trial t = Trial.gunAndLookers(0);
        t.ball(Rows.STAIRS);
        t.ball(Rows.STAIRS);
        t.ball(Rows.stairsTurned(1));
        t.ball(Rows.flat(63));
        t.hair(1, 31, Trial.NONE);
        t.hair(2, 1, 63);
        return t;
    }

    private static void own() {
        Trial t = three();
        t.due(t.own(0, 0, 1, 2, 0), 1);
        t.due(t.own(0, 0, 2, 1, 0), Trial.MIN);
        t.due(t.own(0, 0, 1, 3, 0), Trial.MAX);
        t.due(t.own(0, 0, 3, 1, 0), 0);
        t.due(t.own(0, 0, 1, 1, 0), 0);
        // They are hairs of the ball itself: ball 2's hair 0 lies beside hair 31 of the others.
        t.due(t.own(0, 2, 0, 1, 0), 1);
        t.due(t.own(0, 2, 1, 0, 0), 0);
        // Under best: with OTHER the hairs 0, 4, 8, slid by 1, and not those that run if slid by 2.
        Trial best = Trial.gunAndLookers(0);
        best.ball(Rows.ONE);
        best.ball(Rows.OTHER);
        best.ball(Rows.flat(62));
        best.due(best.own(0, 0, 1, 2, 0), 1 + (1 << 4) + (1 << 8));
        best.due(best.own(0, 1, 0, 2, 0), (1 << 18) + (1 << 19) + (1 << 20));
    }

    private static void kin() {
        Trial t = three();
        t.due(t.own(0, 0, 1, 2, 1), 0x7FFFFFFE);
        t.due(t.own(0, 0, 2, 1, 1), 0x7FFFFFFE);
        t.due(t.own(0, 0, 1, 1, 1), Trial.MAX);
        t.due(t.own(0, 0, 1, 3, 1), 0);
        t.due(t.own(0, 0, 3, 1, 1), 0);
        t.due(t.own(0, 2, 0, 1, 1), ~3);
    }

    private static void sets() {
        Trial t = Trial.gunAndLookers(0);
        t.ball(Rows.STAIRS);
        t.ball(Rows.STAIRS);
        t.ball(Rows.flat(63));
        t.due(t.own(0, 0, 1, 2, 0), -1);
        t.due(t.own(0, 0, 1, 1, 1), -1);
        t.due(t.own(0, 0, 2, 1, 0), 0);
        for (int i = 0; i < 32; i++) {
            t.hair(2, i, 2 * i);
            t.due(t.own(0, 0, 1, 2, 1), 1 << i);
            t.due(t.own(0, 0, 1, 2, 0), ~(1 << i));
            t.hair(2, i, 63);
        }
    }

    private static void listAllOthers() {
        Trial t = Trial.gunAndLookers(0);
        for (int n = 0; n < 40; n++) {
            t.due(n % 2 == 0 ? t.found() : t.shot(0, 0), n);
            t.hair(n, 0, n);
        }
        for (int ball : new int[] {0, 17, 39}) {
            long seen = 0;
            for (int k = 0; k < 39; k++) {
                int other = t.list(0, ball, k);
                t.due(other >= 0 && other < 40 && other != ball, true);
                seen |= 1L << other;
            }
            t.due(Long.bitCount(seen), 39);
            t.due(t.list(0, ball, 39), Trial.NONE);
        }
        Trial alone = new Trial();
        alone.looker(0);
        alone.found();
        alone.due(alone.list(0, 0, 0), Trial.NONE);
        alone.found();
        alone.due(alone.list(0, 0, 0), 1);
        alone.due(alone.list(0, 1, 0), 0);
    }

    private static void listByMany() {
        Trial t = Trial.gunAndLookers(0);
        int[] lost = {5, 0, 31, 32, 1};
        t.ball(Rows.STAIRS);
        for (int n : lost) {
            t.lack(t.shot(0, 0), n);
        }
        int[] due = {2, 5, 1, 3, 4};
        for (int k = 0; k < 5; k++) {
            t.due(t.list(0, 0, k), due[k]);
        }
        t.due(t.list(0, 0, 5), Trial.NONE);
        // The greatest many comes first also with a lesser longest.
        Trial longest = Trial.gunAndLookers(0);
        longest.ball(Rows.STAIRS);
        longest.lack(longest.shot(0, 0), 20);
        longest.shot(0, 0);
        for (int i = 0; i < 32; i += 3) {
            longest.hair(2, i, 63);
        }
        longest.due(longest.slid(0, 0, 1, 2), 12);
        longest.due(longest.slid(0, 0, 2, 2), 2);
        longest.due(longest.list(0, 0, 0), 2);
        longest.due(longest.list(0, 0, 1), 1);
    }

    private static void listByLongest() {
        Trial t = Trial.gunAndLookers(0);
        t.ball(Rows.STAIRS);
        int[][] lost = {{0, 8, 16, 24}, {0, 1, 2, 3}, {0, 16, 17, 18}, {0, 10, 20, 30}};
        // Longest of 7, 28, 15 and 9.
        for (int[] hairs : lost) {
            int ball = t.shot(0, 0);
            for (int i : hairs) {
                t.hair(ball, i, Trial.NONE);
            }
        }
        int[] due = {2, 3, 4, 1};
        for (int k = 0; k < 4; k++) {
            t.due(t.list(0, 0, k), due[k]);
        }
    }

    private static void listByNumber() {
        Trial t = Trial.gunAndLookers(0);
        for (int n = 0; n < 40; n++) {
            t.shot(0, 0);
        }
        for (int k = 0; k < 39; k++) {
            t.due(t.list(0, 0, k), k + 1);
            t.due(t.list(0, 39, k), k);
            t.due(t.list(0, 20, k), k < 20 ? k : k + 1);
        }
        // Also where nothing runs at all.
        t.lack(20, 32);
        t.due(t.list(0, 20, 0), 0);
        t.due(t.list(0, 20, 38), 39);
    }

    private static void listOrder() {
        Trial t = Trial.gunAndLookers(0);
        t.ball(Rows.OTHER);
        t.ball(Rows.ONE);
        // Ball 2 has 3 hairs beside OTHER, ball 3 beside ONE, 2 of them one behind the other.
        t.ball(Rows.marked(1, 1, 10, 18, 20, 19, 21));
        t.ball(Rows.marked(1, 0, 10, 16, 20, 17, 21));
        int[] forOther = {1, 2, 3};
        int[] forOne = {3, 0, 2};
        for (int k = 0; k < 3; k++) {
            t.due(t.list(0, 0, k), forOther[k]);
            t.due(t.list(0, 1, k), forOne[k]);
        }
    }
}
