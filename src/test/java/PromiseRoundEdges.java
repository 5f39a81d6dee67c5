/** The edges that promises 24 to 29 name: pairs, what is counted, rounds, leaning, scenes. */
final class PromiseRoundEdges {
    private static final int[] NO_LOOKER = {-1, 1, 5, 6, 64, Trial.MIN, Trial.MAX};

    private PromiseRoundEdges() {
    }

    static void add(Edges edges) {
        edges.promise(24, "A PAIR of the ROUND: its number;", PromiseRoundEdges::pair);
        edges.promise(24, "NONE if one can't be", PromiseRoundEdges::pairRefused);
        edges.promise(24, "(the same BALL),", PromiseRoundEdges::pairOfOneBall);
        edges.promise(24, "or there are ten.", PromiseRoundEdges::tenPairs);
        edges.promise(25, "COUNTED for a LOOKER: what 0 right, 1 wrong, 2 can't;", PromiseRoundEdges::counted);
        edges.promise(25, "NONE if one can't be,", PromiseRoundEdges::countedRefused);
        edges.promise(25, "or another what.", PromiseRoundEdges::countedAnotherWhat);
        edges.promise(26, "THE ROUND for a set of LOOKERS (l counts 2 to the l):", PromiseRoundEdges::roundOfSet);
        edges.promise(26, "what 0 the set of PAIRS, 1 its HOURS.", PromiseRoundEdges::round);
        edges.promise(26, "NONE if there is none,", PromiseRoundEdges::roundNone);
        edges.promise(26, "one can't be (no LOOKER),", PromiseRoundEdges::roundRefused);
        edges.promise(26, "or another what.", PromiseRoundEdges::roundAnotherWhat);
        edges.promise(27, "LEAN of a LOOKER;", PromiseRoundEdges::lean);
        edges.promise(27, "NONE if there is none such.", PromiseRoundEdges::leanRefused);
        edges.promise(28, "A BALL is of a SCENE or not: true;", PromiseRoundEdges::scene);
        edges.promise(28, "false if one can't be,", PromiseRoundEdges::sceneRefused);
        edges.promise(28, "or it is so.", PromiseRoundEdges::sceneIsSo);
        edges.promise(29, "SCENES by a LOOKER: what 0 how many GROUPS the SCENES with BALLS make,",
                PromiseRoundEdges::joinedGroups);
        edges.promise(29, "1 of THE WEAKEST 8 times the first and the second,", PromiseRoundEdges::joinedWeakest);
        edges.promise(29, "2 its LONGEST,", PromiseRoundEdges::joinedLongest);
        edges.promise(29, "10 + k the least SCENE of SCENE k's GROUP.", PromiseRoundEdges::joinedLeast);
        edges.promise(29, "NONE if there is none,", PromiseRoundEdges::joinedNone);
        edges.promise(29, "one can't be (SCENE k without BALLS),", PromiseRoundEdges::joinedRefused);
        edges.promise(29, "or another what.", PromiseRoundEdges::joinedAnotherWhat);
    }

    private static void pair() {
        Trial t = Trial.gun();
        t.shot(0, 0);
        t.shot(0, 0);
        t.found();
        int[][] balls = {{0, 1}, {1, 0}, {0, 1}, {0, 2}, {2, 0}, {2, 1}, {1, 2}, {1, 0}, {2, 0}, {0, 1}};
        for (int k = 0; k < 10; k++) {
            t.due(t.pair(balls[k][0], balls[k][1], k == 0 ? 99 : k), k);
            t.due(t.look(4), k + 1);
        }
    }

    private static void pairRefused() {
        Trial t = Trial.gun();
        t.due(t.pair(0, 1, 1), Trial.NONE);
        t.shot(0, 0);
        t.due(t.pair(0, 1, 1), Trial.NONE);
        t.shot(0, 0);
        for (int ball : new int[] {-1, 2, 39, 40, Trial.MIN, Trial.MAX}) {
            t.due(t.pair(0, ball, 1), Trial.NONE);
            t.due(t.pair(ball, 0, 1), Trial.NONE);
        }
        for (int hours : new int[] {0, -1, 100, Trial.MIN, Trial.MAX}) {
            t.due(t.pair(0, 1, hours), Trial.NONE);
        }
        t.due(t.look(4), 0);
        t.due(t.pair(0, 1, 1), 0);
        t.due(t.pair(0, 1, 99), 1);
    }

    private static void pairOfOneBall() {
        Trial t = Trial.gun();
        t.shot(0, 0);
        t.found();
        t.due(t.pair(0, 0, 1), Trial.NONE);
        t.due(t.pair(1, 1, 1), Trial.NONE);
        t.due(t.look(4), 0);
        t.due(t.pair(0, 1, 1), 0);
    }

    private static void tenPairs() {
        Trial t = Stores.kinPairs(1, 9, 9, 9, 9, 9, 9, 9, 9, 9, 9);
        t.judgement(0, "same 1=1;");
        t.due(t.pair(0, 1, 1), Trial.NONE);
        t.due(t.pair(1, 2, 99), Trial.NONE);
        t.due(t.look(4), 10);
        t.due(t.counted(0, false, 1), 10);
        t.due(t.round(1, 1), 9);
    }

    private static void counted() {
        Trial t = Stores.kinPairs(1, 1, 1, 1, 1, 1, 1);
        t.judgement(0, "same lack=1; not lack<4;");
        // Pair 0 is wrong, pairs 1 and 2 are right, he can't say of pairs 3, 4 and 5.
        int[] dues = {2, 1, 3};
        for (int what = 0; what < 3; what++) {
            t.due(t.counted(0, false, what), dues[what]);
            t.due(t.counted(0, true, what), dues[what]);
        }
        Trial none = new Trial();
        none.looker(0);
        for (int what = 0; what < 3; what++) {
            none.due(none.counted(0, false, what), 0);
        }
    }

    private static void countedRefused() {
        Trial t = Stores.kinPairs(1, 1);
        for (int looker : NO_LOOKER) {
            for (int what = 0; what < 3; what++) {
                t.due(t.counted(looker, false, what), Trial.NONE);
                t.due(t.counted(looker, true, what), Trial.NONE);
            }
        }
        Trial none = new Trial();
        none.due(none.counted(0, false, 0), Trial.NONE);
    }

    private static void countedAnotherWhat() {
        Trial t = Stores.kinPairs(1, 1);
        for (int what : new int[] {-1, 3, 4, Trial.MIN, Trial.MAX}) {
            t.due(t.counted(0, false, what), Trial.NONE);
            t.due(t.counted(0, true, what), Trial.NONE);
        }
    }

    private static void roundOfSet() {
        Trial t = Stores.kinPairs(6, 1, 2, 3, 4, 5, 6);
        for (int l = 0; l < 6; l++) {
            Stores.errs(t, l, l);
        }
        // Looker l is wrong in pair l alone, so that the set of pairs is that of the lookers.
        for (int set = 1; set < 64; set++) {
            int hours = 0;
            for (int l = 0; l < 6; l++) {
                hours += (set >> l & 1) * (l + 1);
            }
            t.due(t.round(set, 0), set);
            t.due(t.round(set, 1), hours);
        }
    }

    private static void round() {
        Trial t = Stores.kinPairs(1, 99, 98, 99);
        Stores.errs(t, 0, 2);
        t.due(t.round(1, 0), 4);
        t.due(t.round(1, 1), 99);
        Stores.errs(t, 0, 1, 2);
        t.due(t.round(1, 0), 2);
        t.due(t.round(1, 1), 98);
        t.looker(0);
        Stores.errs(t, 1, 0);
        t.due(t.round(3, 0), 3);
        t.due(t.round(3, 1), 197);
    }

    private static void roundNone() {
        Trial t = Stores.kinPairs(2);
        Stores.errs(t, 0, 0);
        t.due(t.round(1, 0), Trial.NONE);
        t.due(t.round(1, 1), Trial.NONE);
        t.lack(t.shot(1, 0), 1);
        t.pair(0, 1, 7);
        t.due(t.round(1, 0), 1);
        t.due(t.round(1, 1), 7);
        // Looker 1 is never wrong, alone or among others.
        for (int set = 2; set < 4; set++) {
            t.due(t.round(set, 0), Trial.NONE);
            t.due(t.round(set, 1), Trial.NONE);
        }
    }

    private static void roundRefused() {
        Trial t = Stores.kinPairs(2, 1);
        t.judgement(0, "same 1=1;");
        t.judgement(1, "same 1=1;");
        t.due(t.round(3, 0), 1);
        for (int set : new int[] {0, 4, 5, 7, 8, 32, 33, 63, 64, 65, -1, Trial.MIN, Trial.MIN + 1, Trial.MAX}) {
            t.due(t.round(set, 0), Trial.NONE);
            t.due(t.round(set, 1), Trial.NONE);
        }
        Trial six = Stores.kinPairs(6, 1);
        for (int l = 0; l < 6; l++) {
            six.judgement(l, "same 1=1;");
        }
        six.due(six.round(63, 0), 1);
        six.due(six.round(64, 0), Trial.NONE);
        six.due(six.round(127, 0), Trial.NONE);
        six.due(six.round(-1, 0), Trial.NONE);
        Trial nobody = Stores.kinPairs(0, 1);
        nobody.due(nobody.round(0, 0), Trial.NONE);
        nobody.due(nobody.round(1, 0), Trial.NONE);
    }

    private static void roundAnotherWhat() {
        Trial t = Stores.kinPairs(1, 1);
        t.judgement(0, "same 1=1;");
        for (int what : new int[] {-1, 2, 3, Trial.MIN, Trial.MAX}) {
            t.due(t.round(1, what), Trial.NONE);
        }
    }

    private static void lean() {
        Trial t = Stores.kinPairs(2, 1, 1, 1);
        t.judgement(0, "same told=1 and lack>1;");
        t.due(t.lean(0), 2);
        t.due(t.lean(1), 0);
        t.judgement(0, "same told=1;");
        t.due(t.lean(0), 3);
        t.hair(3, 20, Trial.NONE);
        t.judgement(0, "same told=1 and lack=4;");
        t.due(t.lean(0), 1);
    }

    private static void leanRefused() {
        Trial t = Stores.kinPairs(1, 1);
        for (int looker : NO_LOOKER) {
            t.due(t.lean(looker), Trial.NONE);
        }
        Trial none = new Trial();
        none.due(none.lean(0), Trial.NONE);
        none.looker(0);
        none.due(none.lean(0), 0);
    }

    private static void scene() {
        Trial t = new Trial();
        t.looker(0);
        for (int n = 0; n < 40; n++) {
            t.found();
        }
        // Balls 0 and 32, or 7 and 39, are not taken for one another.
        for (int scene : new int[] {0, 7}) {
            for (int ball : new int[] {0, 32, 7, 39, 31}) {
                t.due(t.scene(scene, ball, true), true);
            }
            for (int ball : new int[] {39, 0, 31, 7, 32}) {
                t.due(t.joined(0, 10 + scene), scene);
                t.due(t.scene(scene, ball, false), true);
            }
            t.due(t.joined(0, 10 + scene), Trial.NONE);
            t.due(t.scene(scene, 39, true), true);
        }
        t.due(t.joined(0, 0), 2);
    }

    private static void sceneRefused() {
        Trial t = new Trial();
        t.looker(0);
        t.due(t.scene(0, 0, true), false);
        t.found();
        for (boolean is : new boolean[] {true, false}) {
            for (int scene : new int[] {-1, 8, 9, 64, Trial.MIN, Trial.MAX}) {
                t.due(t.scene(scene, 0, is), false);
            }
            for (int ball : new int[] {-1, 1, 39, 40, 64, Trial.MIN, Trial.MAX}) {
                t.due(t.scene(0, ball, is), false);
            }
        }
        t.due(t.joined(0, 0), 0);
        t.due(t.scene(0, 0, true), true);
        t.due(t.scene(0, 64, false), false);
        t.due(t.joined(0, 0), 1);
    }

    private static void sceneIsSo() {
        Trial t = new Trial();
        t.found();
        t.found();
        for (int scene = 0; scene < 8; scene++) {
            t.due(t.scene(scene, 0, false), false);
            t.due(t.scene(scene, 0, true), true);
            t.due(t.scene(scene, 0, true), false);
            t.due(t.scene(scene, 1, false), false);
            t.due(t.scene(scene, 1, true), true);
            t.due(t.scene(scene, 0, false), true);
            t.due(t.scene(scene, 0, false), false);
            t.due(t.scene(scene, 1, true), false);
        }
    }

    private static void joinedGroups() {
        Trial none = new Trial();
        none.looker(0);
        none.due(none.joined(0, 0), 0);
        Trial t = Stores.scenes(8);
        t.due(t.joined(0, 0), 8);
        Stores.joins(t, 0, 7, 3, 4);
        t.due(t.joined(0, 0), 6);
        // Those without balls make none.
        t.scene(3, 3, false);
        t.due(t.joined(0, 0), 6);
        t.scene(5, 5, false);
        t.due(t.joined(0, 0), 5);
        t.judgement(0, "same 1=1;");
        t.due(t.joined(0, 0), 1);
        // A looker's groups are his own.
        t.looker(0);
        t.due(t.joined(1, 0), 6);
    }

    private static void joinedWeakest() {
        Trial t = Stores.scenes(8);
        for (int a = 0; a < 8; a++) {
            for (int b = a + 1; b < 8; b++) {
                Stores.joins(t, a, b);
                t.due(t.joined(0, 1), 8 * a + b);
            }
        }
    }

    private static void joinedLongest() {
        Trial t = Stores.scenes(8);
        Stores.joins(t, 0, 1, 1, 7);
        t.due(t.joined(0, 2), 25);
        Stores.joins(t, 0, 1);
        t.due(t.joined(0, 2), 31);
        t.lack(0, 32);
        t.judgement(0, "same longest=0;");
        t.due(t.joined(0, 2), 0);
        Trial equal = new Trial();
        equal.looker(0);
        equal.found();
        equal.found();
        equal.scene(0, 0, true);
        equal.scene(7, 1, true);
        equal.judgement(0, "same 1=1;");
        equal.due(equal.joined(0, 2), 32);
        equal.due(equal.joined(0, 1), 7);
    }

    private static void joinedLeast() {
        Trial t = Stores.scenes(8);
        for (int k = 0; k < 8; k++) {
            t.due(t.joined(0, 10 + k), k);
        }
        Stores.joins(t, 6, 7, 3, 7, 3, 5);
        int[] least = {0, 1, 2, 3, 4, 3, 3, 3};
        for (int k = 0; k < 8; k++) {
            t.due(t.joined(0, 10 + k), least[k]);
        }
        // The least that has balls.
        t.scene(3, 3, false);
        t.due(t.joined(0, 17), 6);
        t.due(t.joined(0, 16), 6);
        t.due(t.joined(0, 15), 5);
    }

    private static void joinedNone() {
        Trial t = Stores.scenes(3);
        t.due(t.joined(0, 1), Trial.NONE);
        t.due(t.joined(0, 2), Trial.NONE);
        t.judgement(0, "not 1=1;");
        t.due(t.joined(0, 1), Trial.NONE);
        t.due(t.joined(0, 2), Trial.NONE);
        t.judgement(0, "same 1=1;");
        t.due(t.joined(0, 1), 2);
        t.due(t.joined(0, 2), 30);
        // One scene alone is joined with none.
        t.scene(0, 0, false);
        t.scene(1, 1, false);
        t.due(t.joined(0, 1), Trial.NONE);
        t.due(t.joined(0, 2), Trial.NONE);
        t.scene(2, 2, false);
        t.due(t.joined(0, 1), Trial.NONE);
        t.due(t.joined(0, 0), 0);
    }

    private static void joinedRefused() {
        Trial t = Stores.scenes(1);
        for (int looker : NO_LOOKER) {
            for (int what : new int[] {0, 1, 2, 10}) {
                t.due(t.joined(looker, what), Trial.NONE);
            }
        }
        t.due(t.joined(0, 10), 0);
        for (int k = 1; k < 8; k++) {
            t.due(t.joined(0, 10 + k), Trial.NONE);
        }
        t.scene(0, 0, false);
        t.due(t.joined(0, 10), Trial.NONE);
    }

    private static void joinedAnotherWhat() {
        Trial t = Stores.scenes(8);
        t.judgement(0, "same 1=1;");
        for (int what : new int[] {Trial.MIN, -1, 3, 4, 5, 6, 7, 8, 9, 18, 19, 20, 32, Trial.MAX}) {
            t.due(t.joined(0, what), Trial.NONE);
        }
    }
}
