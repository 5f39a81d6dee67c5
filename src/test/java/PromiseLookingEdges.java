/** The edges that promises 16 to 23 name: lookers, what they see and say, truth, odds, far, own, lists. */
final class PromiseLookingEdges {
    private static final int[] NO_BALL = {-1, 2, 39, 40, 64, Trial.MIN, Trial.MAX};
    private static final int[] NO_LOOKER = {-1, 1, 5, 6, 64, Trial.MIN, Trial.MAX};

    private PromiseLookingEdges() {
    }

    static void add(Edges edges) {
        edges.promise(16, "A LOOKER: the number;", PromiseLookingEdges::looker);
        edges.promise(16, "NONE if one can't be,", PromiseLookingEdges::lookerRefused);
        edges.promise(16, "or there are six.", PromiseLookingEdges::sixLookers);
        edges.promise(17, "Two BALLS by a LOOKER: what 0 MANY of BEST, 1 its s, 2 LONGEST, 3 PIECES, 4 LACK,",
                PromiseLookingEdges::slid);
        edges.promise(17, "32 + s MANY of s.", PromiseLookingEdges::slidBy);
        edges.promise(17, "NONE if one can't be,", PromiseLookingEdges::slidRefused);
        edges.promise(17, "or another what.", PromiseLookingEdges::slidAnotherWhat);
        edges.promise(18, "What a LOOKER SAYS of two BALLS, told or not;", PromiseLookingEdges::says);
        edges.promise(18, "NONE if one can't be.", PromiseLookingEdges::saysRefused);
        edges.promise(19, "The TRUTH of two BALLS;", PromiseLookingEdges::truth);
        edges.promise(19, "NONE if one is FOUND,", PromiseLookingEdges::truthOfFound);
        edges.promise(19, "they are the same,", PromiseLookingEdges::truthOfSame);
        edges.promise(19, "or one can't be.", PromiseLookingEdges::truthRefused);
        edges.promise(20, "ODDS of a LONGEST of n (0 .. 32) and more by a LOOKER", PromiseLookingEdges::oddsOfN);
        edges.promise(20, "for a TRUTH 0 .. 2:", PromiseLookingEdges::oddsOfTruth);
        edges.promise(20, "what 0 how many pairs have that, 1 how many there are.", PromiseLookingEdges::odds);
        edges.promise(20, "NONE if one can't be,", PromiseLookingEdges::oddsRefused);
        edges.promise(20, "or another what.", PromiseLookingEdges::oddsAnotherWhat);
        edges.promise(21, "FAR for a LONGEST of n (0 .. 33) by a LOOKER;", PromiseLookingEdges::far);
        edges.promise(21, "NONE if there is none,", PromiseLookingEdges::farNone);
        edges.promise(21, "or one can't be.", PromiseLookingEdges::farRefused);
        edges.promise(22, "What 0 OWN, 1 KIN of BALL a beside b and c, by a LOOKER, as a set;", PromiseLookingEdges::own);
        edges.promise(22, "0 if one can't be,", PromiseLookingEdges::ownRefused);
        edges.promise(22, "or for another what.", PromiseLookingEdges::ownAnotherWhat);
        edges.promise(23, "Place k (from 0) of a LIST for a BALL by a LOOKER;", PromiseLookingEdges::list);
        edges.promise(23, "NONE if there is none such,", PromiseLookingEdges::listNoPlace);
        edges.promise(23, "or one can't be.", PromiseLookingEdges::listRefused);
    }

    /** Looker 0 of margin 0, balls 0 and 1 by these laws, both of barrel 0. */
    private static Trial two(String first, String second) {
        Trial t = Trial.gunAndLookers(0);
        t.ball(first);
        t.ball(second);
        return t;
    }

    private static void looker() {
        Trial t = new Trial();
        int[] margins = {15, 0, 0, 7, 1, 15};
        for (int l = 0; l < 6; l++) {
            t.due(t.looker(margins[l]), l);
            t.due(t.look(3), l + 1);
        }
        // Each has the margin that was told for him.
        t.found();
        t.found();
        for (int v : new int[] {0, 1, 7, 8, 15, 16}) {
            t.hair(1, 0, v);
            for (int l = 0; l < 6; l++) {
                t.due(t.slid(l, 0, 1, 32), v <= margins[l] ? 32 : 31);
            }
        }
    }

    private static void lookerRefused() {
        Trial t = new Trial();
        for (int margin : new int[] {-1, 16, 17, Trial.MIN, Trial.MAX}) {
            t.due(t.looker(margin), Trial.NONE);
        }
        t.due(t.look(3), 0);
        t.due(t.looker(0), 0);
        t.due(t.looker(15), 1);
    }

    private static void sixLookers() {
        Trial t = new Trial();
        t.found();
        for (int l = 0; l < 6; l++) {
            t.looker(0);
        }
        t.judgement(5, "same 1=1;");
        t.due(t.looker(0), Trial.NONE);
        t.due(t.looker(15), Trial.NONE);
        t.due(t.look(3), 6);
        t.due(t.says(5, 0, 0, false), 1);
        t.due(t.says(6, 0, 0, false), Trial.NONE);
    }

    private static void slid() {
        Trial t = two(Rows.ONE, Rows.OTHER);
        t.hair(1, 31, Trial.NONE);
        t.hair(0, 30, Trial.NONE);
        t.hair(0, 29, Trial.NONE);
        int[] dues = {3, 1, 1, 6, 3};
        int[] back = {3, 30, 3, 6, 3};
        for (int what = 0; what < 5; what++) {
            t.due(t.slid(0, 0, 1, what), dues[what]);
            t.due(t.slid(0, 1, 0, what), back[what]);
        }
        // A ball beside itself.
        int[] itself = {30, 0, 30, 30, 4};
        for (int what = 0; what < 5; what++) {
            t.due(t.slid(0, 0, 0, what), itself[what]);
        }
        // What was asked by one looker, or of two balls, is none of another's.
        t.looker(15);
        t.found();
        t.due(t.slid(1, 0, 1, 4), 3);
        t.due(t.slid(1, 2, 2, 0), 32);
        t.due(t.slid(0, 0, 1, 0), 3);
    }

    private static void slidBy() {
        Trial t = two(Rows.ONE, Rows.OTHER);
        for (int s = 0; s < 32; s++) {
            t.due(t.slid(0, 0, 1, 32 + s), s == 1 || s == 2 ? 3 : 0);
        }
        Trial last = two(Rows.STAIRS, Rows.stairsTurned(31));
        last.due(last.slid(0, 0, 1, 63), 32);
        last.due(last.slid(0, 0, 1, 62), 0);
        last.due(last.slid(0, 0, 1, 32), 0);
        last.due(last.slid(0, 0, 0, 32), 32);
    }

    private static void slidRefused() {
        Trial t = two(Rows.ONE, Rows.ONE);
        for (int what : new int[] {0, 1, 2, 3, 4, 32, 63}) {
            for (int looker : NO_LOOKER) {
                t.due(t.slid(looker, 0, 1, what), Trial.NONE);
            }
            for (int ball : NO_BALL) {
                t.due(t.slid(0, ball, 1, what), Trial.NONE);
                t.due(t.slid(0, 0, ball, what), Trial.NONE);
            }
        }
    }

    private static void slidAnotherWhat() {
        Trial t = two(Rows.ONE, Rows.ONE);
        for (int what = 5; what < 32; what++) {
            t.due(t.slid(0, 0, 1, what), Trial.NONE);
        }
        for (int what : new int[] {-1, -32, 64, 65, 95, 96, Trial.MIN, Trial.MAX}) {
            t.due(t.slid(0, 0, 1, what), Trial.NONE);
        }
    }

    private static void says() {
        Trial t = two(Rows.ONE, Rows.OTHER);
        t.looker(0);
        t.due(t.says(0, 0, 1, true), 2);
        t.judgement(0, "same told=1; not told=0;");
        t.due(t.says(0, 0, 1, true), 1);
        t.due(t.says(0, 0, 1, false), 0);
        t.due(t.says(0, 0, 0, true), 1);
        t.due(t.says(1, 0, 1, true), 2);
        // Told anew, he says anew.
        t.judgement(0, "not told=1;");
        t.due(t.says(0, 0, 1, true), 0);
        t.due(t.says(0, 0, 1, false), 2);
        t.judgement(0, "same lack=0; not lack=1;");
        t.due(t.says(0, 0, 1, false), 1);
        t.hair(1, 0, Trial.NONE);
        t.due(t.says(0, 0, 1, false), 0);
        t.due(t.says(0, 1, 0, false), 0);
        t.due(t.says(0, 1, 1, false), 2);
    }

    private static void saysRefused() {
        Trial t = two(Rows.ONE, Rows.OTHER);
        t.judgement(0, "same 1=1;");
        for (boolean told : new boolean[] {true, false}) {
            for (int looker : NO_LOOKER) {
                t.due(t.says(looker, 0, 1, told), Trial.NONE);
            }
            for (int ball : NO_BALL) {
                t.due(t.says(0, ball, 1, told), Trial.NONE);
                t.due(t.says(0, 0, ball, told), Trial.NONE);
            }
        }
    }

    private static void truth() {
        Trial t = new Trial();
        t.tool(0);
        t.tool(0);
        for (int n = 0; n < 16; n++) {
            t.barrel(n / 8);
        }
        for (int gun : new int[] {0, 15, 7, 8, 0, 15}) {
            t.shot(gun, 0);
        }
        int[][] dues = {{0, 4, 0}, {4, 0, 0}, {1, 5, 0}, {0, 2, 1}, {2, 4, 1}, {1, 3, 1}, {2, 3, 2}, {3, 2, 2}, {0, 1, 2},
            {0, 5, 2}};
        for (int[] due : dues) {
            t.due(t.truth(due[0], due[1]), due[2]);
        }
    }

    private static void truthOfFound() {
        Trial t = Trial.gun();
        t.shot(0, 0);
        t.found();
        t.found();
        t.due(t.truth(0, 1), Trial.NONE);
        t.due(t.truth(1, 0), Trial.NONE);
        t.due(t.truth(1, 2), Trial.NONE);
    }

    private static void truthOfSame() {
        Trial t = Trial.gun();
        t.shot(0, 0);
        t.found();
        t.due(t.truth(0, 0), Trial.NONE);
        t.due(t.truth(1, 1), Trial.NONE);
        t.shot(0, 0);
        t.due(t.truth(2, 2), Trial.NONE);
        t.due(t.truth(0, 2), 0);
    }

    private static void truthRefused() {
        Trial t = Trial.gun();
        t.due(t.truth(0, 1), Trial.NONE);
        t.shot(0, 0);
        t.shot(0, 0);
        for (int ball : NO_BALL) {
            t.due(t.truth(ball, 0), Trial.NONE);
            t.due(t.truth(0, ball), Trial.NONE);
            t.due(t.truth(ball, ball), Trial.NONE);
        }
    }

    private static void oddsOfN() {
        Trial t = two(Rows.flat(5), Rows.flat(5));
        t.due(t.odds(0, 0, 0, 0), 1);
        t.due(t.odds(0, 32, 0, 0), 1);
        for (int n : new int[] {-1, 33, 34, Trial.MIN, Trial.MAX}) {
            t.due(t.odds(0, n, 0, 0), Trial.NONE);
            t.due(t.odds(0, n, 0, 1), Trial.NONE);
        }
        t.hair(1, 4, Trial.NONE);
        t.due(t.odds(0, 32, 0, 0), 0);
        t.due(t.odds(0, 31, 0, 0), 1);
    }

    private static void oddsOfTruth() {
        Trial t = two(Rows.flat(5), Rows.flat(5));
        t.due(t.odds(0, 0, 0, 1), 1);
        t.due(t.odds(0, 0, 1, 1), 0);
        t.due(t.odds(0, 0, 2, 1), 0);
        for (int truth : new int[] {-1, 3, 4, Trial.MIN, Trial.MAX}) {
            t.due(t.odds(0, 0, truth, 0), Trial.NONE);
            t.due(t.odds(0, 0, truth, 1), Trial.NONE);
        }
        t.barrel(0);
        t.shot(1, 0);
        t.due(t.odds(0, 0, 1, 1), 2);
        t.tool(0);
        t.barrel(1);
        t.shot(2, 0);
        t.due(t.odds(0, 0, 2, 1), 3);
        t.found();
        t.due(t.odds(0, 0, 0, 1) + t.odds(0, 0, 1, 1) + t.odds(0, 0, 2, 1), 6);
    }

    private static void odds() {
        Trial t = new Trial();
        t.looker(0);
        // Nothing is there: 0 of 0.
        t.due(t.odds(0, 0, 0, 0), 0);
        t.due(t.odds(0, 0, 0, 1), 0);
        t.tool(0);
        t.barrel(0);
        t.laws(Rows.STAIRS);
        t.shot(0, 0);
        t.due(t.odds(0, 0, 0, 1), 0);
        t.shot(0, 0);
        t.shot(0, 0);
        t.hair(2, 0, Trial.NONE);
        t.due(t.odds(0, 32, 0, 0), 1);
        t.due(t.odds(0, 32, 0, 1), 3);
        t.due(t.odds(0, 31, 0, 0), 3);
        t.due(t.odds(0, 31, 0, 1), 3);
    }

    private static void oddsRefused() {
        Trial t = two(Rows.flat(5), Rows.flat(5));
        for (int looker : NO_LOOKER) {
            t.due(t.odds(looker, 0, 0, 0), Trial.NONE);
            t.due(t.odds(looker, 0, 0, 1), Trial.NONE);
        }
        Trial none = new Trial();
        none.due(none.odds(0, 0, 0, 0), Trial.NONE);
    }

    private static void oddsAnotherWhat() {
        Trial t = two(Rows.flat(5), Rows.flat(5));
        for (int what : new int[] {-1, 2, 3, 32, Trial.MIN, Trial.MAX}) {
            t.due(t.odds(0, 0, 0, what), Trial.NONE);
        }
    }

    private static void far() {
        Trial t = two(Rows.flat(5), Rows.flat(5));
        t.due(t.far(0, 33), 1);
        t.due(t.far(0, 32), Trial.NONE);
        t.due(t.far(0, 0), Trial.NONE);
        t.lack(1, 32);
        t.due(t.far(0, 0), Trial.NONE);
        t.due(t.far(0, 1), 1);
        t.due(t.far(0, 33), 1);
        t.shot(0, 0);
        t.due(t.far(0, 1), 1);
    }

    private static void farNone() {
        Trial t = new Trial();
        t.looker(0);
        t.due(t.far(0, 33), Trial.NONE);
        t.tool(0);
        t.barrel(0);
        t.barrel(0);
        t.shot(0, 0);
        t.due(t.far(0, 33), Trial.NONE);
        t.shot(1, 0);
        t.found();
        t.found();
        t.due(t.far(0, 33), Trial.NONE);
        t.shot(0, 0);
        t.due(t.far(0, 32), Trial.NONE);
        t.due(t.far(0, 33), 1);
    }

    private static void farRefused() {
        Trial t = two(Rows.flat(5), Rows.flat(6));
        t.due(t.far(0, 33), 1);
        for (int n : new int[] {-1, 34, 35, Trial.MIN, Trial.MAX}) {
            t.due(t.far(0, n), Trial.NONE);
        }
        for (int looker : NO_LOOKER) {
            t.due(t.far(looker, 33), Trial.NONE);
        }
    }

    private static void own() {
        Trial t = two(Rows.STAIRS, Rows.STAIRS);
        t.ball(Rows.STAIRS);
        t.hair(1, 0, Trial.NONE);
        t.hair(1, 5, Trial.NONE);
        t.hair(2, 31, Trial.NONE);
        t.hair(2, 5, Trial.NONE);
        t.due(t.own(0, 0, 1, 2, 0), 1 << 31);
        t.due(t.own(0, 0, 2, 1, 0), 1);
        t.due(t.own(0, 0, 1, 2, 1), ~(1 << 31 | 1 << 5 | 1));
        t.due(t.own(0, 0, 0, 1, 0), 1 | 1 << 5);
        t.due(t.own(0, 0, 0, 0, 0), 0);
        t.due(t.own(0, 0, 0, 0, 1), -1);
        t.due(t.own(0, 1, 0, 2, 0), 1 << 31);
        // By another looker, who lets all run that is there.
        t.looker(15);
        t.ball(Rows.flat(20));
        t.ball(Rows.flat(35));
        t.ball(Rows.flat(36));
        t.due(t.own(1, 3, 4, 5, 0), -1);
        t.due(t.own(1, 3, 5, 4, 0), 0);
        t.due(t.own(0, 3, 4, 5, 0), 0);
    }

    private static void ownRefused() {
        Trial t = two(Rows.flat(5), Rows.flat(5));
        t.due(t.own(0, 0, 1, 1, 1), -1);
        for (int what = 0; what < 2; what++) {
            for (int looker : NO_LOOKER) {
                t.due(t.own(looker, 0, 1, 1, what), 0);
            }
            for (int ball : NO_BALL) {
                t.due(t.own(0, ball, 1, 1, what), 0);
                t.due(t.own(0, 0, ball, 1, what), 0);
                t.due(t.own(0, 0, 1, ball, what), 0);
            }
        }
    }

    private static void ownAnotherWhat() {
        Trial t = two(Rows.flat(5), Rows.flat(5));
        t.shot(0, 0);
        t.lack(2, 7);
        t.due(t.own(0, 0, 1, 2, 0), 127);
        for (int what : new int[] {-1, 2, 3, Trial.MIN, Trial.MAX}) {
            t.due(t.own(0, 0, 1, 2, what), 0);
        }
    }

    private static void list() {
        Trial t = new Trial();
        t.looker(0);
        t.looker(15);
        for (int n = 0; n < 4; n++) {
            t.foundLacking(n);
        }
        t.hair(1, 20, 9);
        int[][] dues = {{0, 1, 2, 3}, {1, 0, 2, 3}, {2, 0, 1, 3}, {3, 0, 1, 2}};
        for (int[] due : dues) {
            for (int k = 0; k < 3; k++) {
                t.due(t.list(1, due[0], k), due[k + 1]);
            }
        }
        // By looker 0 ball 1 has hair 20 against it: 30 beside ball 0, as ball 2, but 19 one behind the other.
        t.due(t.list(0, 0, 0), 2);
        t.due(t.list(0, 0, 1), 1);
        t.due(t.list(0, 0, 2), 3);
        // Told anew, it stands elsewhere.
        t.hair(2, 10, Trial.NONE);
        t.due(t.list(0, 0, 0), 1);
    }

    private static void listNoPlace() {
        Trial t = two(Rows.flat(5), Rows.flat(5));
        t.due(t.list(0, 0, 0), 1);
        for (int k : new int[] {-1, 1, 2, 38, 39, 40, Trial.MIN, Trial.MAX}) {
            t.due(t.list(0, 0, k), Trial.NONE);
        }
        Trial alone = new Trial();
        alone.looker(0);
        alone.found();
        alone.due(alone.list(0, 0, 0), Trial.NONE);
        alone.due(alone.list(0, 0, -1), Trial.NONE);
        Trial full = new Trial();
        full.looker(0);
        for (int n = 0; n < 40; n++) {
            full.found();
        }
        full.due(full.list(0, 0, 38), 39);
        full.due(full.list(0, 39, 38), 38);
        full.due(full.list(0, 0, 39), Trial.NONE);
        full.due(full.list(0, 39, 39), Trial.NONE);
    }

    private static void listRefused() {
        Trial t = two(Rows.flat(5), Rows.flat(5));
        for (int looker : NO_LOOKER) {
            t.due(t.list(looker, 0, 0), Trial.NONE);
        }
        for (int ball : NO_BALL) {
            t.due(t.list(0, ball, 0), Trial.NONE);
        }
        Trial none = new Trial();
        none.looker(0);
        none.due(none.list(0, 0, 0), Trial.NONE);
    }
}
