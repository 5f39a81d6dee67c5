/** The edges that parts 5 and 6 of "Terms" name: pairs, rounds, scenes. */
final class TermsRoundEdges {
    private TermsRoundEdges() {
    }

    static void add(Edges edges) {
        edges.terms(5, "PAIRS 0 .. 9 of a ROUND as they come:", TermsRoundEdges::pairs);
        edges.terms(5, "two BALLS, HOURS 1 .. 99.", TermsRoundEdges::hours);
        edges.terms(5, "RIGHT is who SAYS same for one BARREL's, not for others;", TermsRoundEdges::right);
        edges.terms(5, "FOUND BALLS make a PAIR that counts for nobody.", TermsRoundEdges::foundPairs);
        edges.terms(5, "COUNTED for a LOOKER, told or not,", TermsRoundEdges::countedTold);
        edges.terms(5, "over all PAIRS: right, wrong, can't.", TermsRoundEdges::countedAll);
        edges.terms(5, "THE ROUND for a set of LOOKERS: the set of PAIRS with the fewest HOURS", TermsRoundEdges::fewestHours);
        edges.terms(5, "in which each of them is wrong at least once", TermsRoundEdges::eachWrong);
        edges.terms(5, "(not told);", TermsRoundEdges::roundNotTold);
        edges.terms(5, "of several the fewest PAIRS,", TermsRoundEdges::fewestPairs);
        edges.terms(5, "then the least number (PAIR k counts 2 to the k).", TermsRoundEdges::leastNumber);
        edges.terms(5, "LEAN: for how many PAIRS a LOOKER SAYS another thing if he is told.", TermsRoundEdges::lean);
        edges.terms(6, "SCENES 0 .. 7 have sets of BALLS.", TermsRoundEdges::scenes);
        edges.terms(6, "Two are JOINED by a LOOKER (not told),", TermsRoundEdges::joinedNotTold);
        edges.terms(6, "if he SAYS same of some BALL of the one (first) and one of the other,", TermsRoundEdges::joinedSome);
        edges.terms(6, "the SCENE of the lesser number first.", TermsRoundEdges::joinedOrder);
        edges.terms(6, "GROUPS hang together by being JOINED.", TermsRoundEdges::groups);
        edges.terms(6, "THE WEAKEST: of all JOINED SCENES those two whose best pair of BALLS has the least LONGEST",
                TermsRoundEdges::weakest);
        edges.terms(6, "(the best pair: that with the greatest LONGEST of which he SAYS same);", TermsRoundEdges::bestPair);
        edges.terms(6, "of several the first two by numbers.", TermsRoundEdges::weakestFirst);
    }

    private static void dueCounted(Trial t, int looker, boolean told, int right, int wrong, int cant) {
        t.due(t.counted(looker, told, 0), right);
        t.due(t.counted(looker, told, 1), wrong);
        t.due(t.counted(looker, told, 2), cant);
    }

    private static void dueRound(Trial t, int lookers, int set, int hours) {
        t.due(t.round(lookers, 0), set);
        t.due(t.round(lookers, 1), hours);
    }

    private static void pairs() {
        Trial t = new Trial();
        t.found();
        t.found();
        for (int k = 0; k < 10; k++) {
            t.due(t.look(4), k);
            t.due(t.pair(k % 2, 1 - k % 2, 1), k);
        }
        t.due(t.pair(0, 1, 1), Trial.NONE);
        t.due(t.look(4), 10);
    }

    private static void hours() {
        Trial t = Trial.gunAndLookers(0);
        t.shot(0, 0);
        t.shot(0, 0);
        t.judgement(0, "not 1=1;");
        t.due(t.pair(0, 1, 0), Trial.NONE);
        t.due(t.pair(0, 1, 100), Trial.NONE);
        t.due(t.pair(0, 1, 99), 0);
        dueRound(t, 1, 1, 99);
        t.due(t.pair(0, 1, 1), 1);
        dueRound(t, 1, 2, 1);
    }

    private static void right() {
        // A pair of one barrel's, one of kin, a strange one, and a looker for each thing that may be said.
        Trial t = new Trial();
        t.tool(0);
        t.tool(0);
        t.barrel(0);
        t.barrel(0);
        t.barrel(1);
        for (int gun : new int[] {0, 0, 1, 2}) {
            t.shot(gun, 0);
        }
        for (int l = 0; l < 3; l++) {
            t.looker(0);
        }
        t.judgement(0, "same 1=1;");
        t.judgement(1, "not 1=1;");
        for (int l = 0; l < 3; l++) {
            dueCounted(t, l, false, 0, 0, 0);
        }
        t.pair(0, 1, 1);
        dueCounted(t, 0, false, 1, 0, 0);
        dueCounted(t, 1, false, 0, 1, 0);
        dueCounted(t, 2, false, 0, 0, 1);
        t.pair(0, 2, 1);
        dueCounted(t, 0, false, 1, 1, 0);
        dueCounted(t, 1, false, 1, 1, 0);
        dueCounted(t, 2, false, 0, 0, 2);
        t.pair(3, 0, 1);
        dueCounted(t, 0, false, 1, 2, 0);
        dueCounted(t, 1, false, 2, 1, 0);
        dueCounted(t, 2, false, 0, 0, 3);
    }

    private static void foundPairs() {
        Trial t = Trial.gunAndLookers(0, 0, 0);
        t.shot(0, 0);
        t.found();
        t.found();
        t.due(t.pair(0, 1, 1), 0);
        t.due(t.pair(1, 0, 1), 1);
        t.due(t.pair(1, 2, 1), 2);
        t.judgement(0, "same 1=1;");
        t.judgement(1, "not 1=1;");
        for (int l = 0; l < 3; l++) {
            dueCounted(t, l, false, 0, 0, 0);
            dueCounted(t, l, true, 0, 0, 0);
            t.due(t.round(1 << l, 0), Trial.NONE);
        }
        // Among others they are no part of a round, however cheap.
        t.shot(0, 0);
        t.pair(0, 3, 50);
        dueCounted(t, 1, false, 0, 1, 0);
        dueRound(t, 2, 8, 50);
    }

    private static void countedTold() {
        Trial t = Stores.kinPairs(1, 1, 1, 1, 1);
        t.judgement(0, "same told=1 and lack<3; not told=1 and lack=3; not told=0 and lack<2; same lack=3;");
        // Pairs 0 .. 3 lack 1 .. 4: told he says same, same, not, nothing; not told not, nothing, same, nothing.
        dueCounted(t, 0, true, 1, 2, 1);
        dueCounted(t, 0, false, 1, 1, 2);
        dueCounted(t, 0, true, 1, 2, 1);
    }

    private static void countedAll() {
        Trial t = Stores.kinPairs(1);
        dueCounted(t, 0, false, 0, 0, 0);
        Trial all = Stores.kinPairs(1, 1, 1, 1, 1, 1, 1, 1, 1, 1, 1);
        dueCounted(all, 0, false, 0, 0, 10);
        all.judgement(0, "same lack=1 or lack=10; not lack<4;");
        dueCounted(all, 0, false, 2, 2, 6);
        all.judgement(0, "not 1=1;");
        dueCounted(all, 0, true, 10, 0, 0);
        all.judgement(0, "same 1=1;");
        dueCounted(all, 0, true, 0, 10, 0);
        // The same pair twice counts twice.
        Trial twice = Stores.kinPairs(1, 1);
        twice.pair(0, 1, 1);
        twice.pair(1, 0, 1);
        twice.judgement(0, "same 1=1;");
        dueCounted(twice, 0, false, 0, 3, 0);
    }

    private static void fewestHours() {
        // Two cheap pairs are fewer hours than a dear one that misleads both.
        Trial t = Stores.kinPairs(2, 1, 1, 3);
        Stores.errs(t, 0, 0, 2);
        Stores.errs(t, 1, 1, 2);
        dueRound(t, 3, 0b011, 2);
        dueRound(t, 1, 0b001, 1);
        dueRound(t, 2, 0b010, 1);
        Trial dear = Stores.kinPairs(2, 2, 2, 3);
        Stores.errs(dear, 0, 0, 2);
        Stores.errs(dear, 1, 1, 2);
        dueRound(dear, 3, 0b100, 3);
        // All ten pairs can be needed by no six lookers, but the last six can.
        Trial six = Stores.kinPairs(6, 99, 99, 99, 99, 99, 99, 99, 99, 99, 99);
        for (int l = 0; l < 6; l++) {
            Stores.errs(six, l, 9 - l);
        }
        dueRound(six, 63, 0b1111110000, 594);
        dueRound(six, 1, 0b1000000000, 99);
        dueRound(six, 33, 0b1000010000, 198);
    }

    private static void eachWrong() {
        Trial t = Stores.kinPairs(3, 5, 6, 7);
        Stores.errs(t, 0, 0);
        Stores.errs(t, 1, 1, 2);
        dueRound(t, 1, 0b001, 5);
        dueRound(t, 2, 0b010, 6);
        dueRound(t, 3, 0b011, 11);
        // Looker 2 can't say, which is not wrong: no round finds him.
        t.due(t.round(4, 0), Trial.NONE);
        t.due(t.round(4, 1), Trial.NONE);
        t.due(t.round(7, 0), Trial.NONE);
        t.judgement(2, "not 1=1;");
        t.due(t.round(4, 0), Trial.NONE);
        t.judgement(2, "same 1=1;");
        dueRound(t, 4, 0b001, 5);
        dueRound(t, 7, 0b011, 11);
        // Wrong is also who says not of one barrel's balls.
        Trial one = Trial.gunAndLookers(0, 0);
        one.shot(0, 0);
        one.shot(0, 0);
        one.pair(0, 1, 9);
        one.judgement(0, "not 1=1;");
        one.judgement(1, "same 1=1;");
        dueRound(one, 1, 1, 9);
        one.due(one.round(2, 0), Trial.NONE);
    }

    private static void roundNotTold() {
        Trial t = Stores.kinPairs(2, 5, 6);
        t.judgement(0, "same told=1;");
        t.judgement(1, "same told=0 and lack=2; same told=1;");
        t.due(t.round(1, 0), Trial.NONE);
        dueRound(t, 2, 0b10, 6);
        t.due(t.round(3, 0), Trial.NONE);
    }

    private static void fewestPairs() {
        Trial t = Stores.kinPairs(2, 1, 1, 2);
        Stores.errs(t, 0, 0, 2);
        Stores.errs(t, 1, 1, 2);
        dueRound(t, 3, 0b100, 2);
        Trial three = Stores.kinPairs(3, 1, 1, 1, 1, 2);
        Stores.errs(three, 0, 0, 4);
        Stores.errs(three, 1, 1, 4);
        Stores.errs(three, 2, 2, 3);
        // Pairs 2 or 3 for the third looker; pair 4 for the two others, as dear as pairs 0 and 1.
        dueRound(three, 7, 0b10100, 3);
    }

    private static void leastNumber() {
        Trial t = Stores.kinPairs(1, 3, 2, 2, 2);
        Stores.errs(t, 0, 0, 1, 2, 3);
        dueRound(t, 1, 0b0010, 2);
        // Pairs 0 and 3 have number 9, pairs 1 and 2 number 6: as many hours, as many pairs.
        Trial two = Stores.kinPairs(3, 3, 1, 3, 1);
        Stores.errs(two, 0, 0, 1);
        Stores.errs(two, 1, 0, 2);
        Stores.errs(two, 2, 3, 2);
        dueRound(two, 7, 0b0110, 4);
        Trial last = Stores.kinPairs(1, 9, 9, 9, 9, 9, 9, 9, 9, 9, 9);
        Stores.errs(last, 0, 9);
        dueRound(last, 1, 512, 9);
        Stores.errs(last, 0, 9, 8);
        dueRound(last, 1, 256, 9);
    }

    private static void lean() {
        Trial none = Stores.kinPairs(1);
        none.judgement(0, "same told=1;");
        none.due(none.lean(0), 0);
        Trial t = Stores.kinPairs(1, 1, 1, 1, 1, 1, 1, 1, 1, 1, 1);
        String[] texts = {"", "same 1=1;", "same told=1;", "not told=0;", "same told=1; not told=0;",
            "same lack=1 and told=1;", "not lack=10 and told=0; same lack=10;", "same told=1 or told=0;",
            "same told=1 and lack<6; same told=0 and lack<4; not lack>9;"};
        int[] leans = {0, 0, 10, 10, 10, 1, 1, 0, 2};
        for (int n = 0; n < texts.length; n++) {
            t.judgement(0, texts[n]);
            t.due(t.lean(0), leans[n]);
        }
        // Of found balls too he says another thing.
        Trial found = new Trial();
        found.looker(0);
        found.found();
        found.found();
        found.pair(0, 1, 1);
        found.judgement(0, "same told=1;");
        found.due(found.lean(0), 1);
        // The pair's first ball comes first.
        Trial order = Trial.gunAndLookers(0);
        order.ball(Rows.ONE);
        order.ball(Rows.OTHER);
        order.pair(1, 0, 1);
        order.judgement(0, "same slide=30 and told=1;");
        order.due(order.lean(0), 1);
        order.judgement(0, "same slide=1 and told=1;");
        order.due(order.lean(0), 0);
    }

    private static void scenes() {
        Trial t = new Trial();
        t.looker(0);
        for (int n = 0; n < 40; n++) {
            t.found();
        }
        for (int k = 0; k < 8; k++) {
            t.due(t.joined(0, 10 + k), Trial.NONE);
            t.due(t.scene(k, 39, true), true);
            t.due(t.joined(0, 10 + k), k);
            t.due(t.joined(0, 0), k + 1);
        }
        t.due(t.scene(-1, 39, true), false);
        t.due(t.scene(8, 39, true), false);
        // All balls may be of one scene, and each is in it by itself.
        for (int n = 0; n < 39; n++) {
            t.due(t.scene(7, n, true), true);
        }
        for (int n = 0; n < 40; n++) {
            t.due(t.joined(0, 17), 7);
            t.due(t.scene(7, n, false), true);
        }
        t.due(t.joined(0, 17), Trial.NONE);
        t.due(t.joined(0, 0), 7);
    }

    private static void joinedNotTold() {
        Trial t = Stores.scenes(2);
        t.judgement(0, "same told=1;");
        t.due(t.joined(0, 0), 2);
        t.due(t.joined(0, 1), Trial.NONE);
        t.judgement(0, "same told=0;");
        t.due(t.joined(0, 0), 1);
        t.due(t.joined(0, 1), 1);
        t.judgement(0, "not told=0; same told=1;");
        t.due(t.joined(0, 0), 2);
        t.judgement(0, "");
        t.due(t.joined(0, 0), 2);
    }

    private static void joinedSome() {
        Trial t = Stores.scenes(6);
        // Scenes 0 and 1 get three balls each; of one pair among the nine he says same.
        for (int ball = 2; ball < 6; ball++) {
            t.scene(ball, ball, false);
            t.scene(ball % 2, ball, true);
        }
        int[] even = {0, 2, 4};
        int[] odd = {1, 3, 5};
        for (int a : even) {
            for (int b : odd) {
                Stores.joins(t, a, b);
                t.due(t.joined(0, 0), 1);
                t.due(t.joined(0, 2), 32 - Math.max(a, b));
            }
        }
        // Not of two balls of one and the same scene.
        Stores.joins(t, 0, 2);
        t.due(t.joined(0, 0), 2);
        Stores.joins(t, 1, 5);
        t.due(t.joined(0, 0), 2);
        // A ball of both scenes lies beside itself.
        Trial both = Stores.scenes(2);
        both.judgement(0, "same longest=32;");
        both.due(both.joined(0, 0), 2);
        both.scene(1, 0, true);
        both.due(both.joined(0, 0), 1);
        both.due(both.joined(0, 2), 32);
    }

    private static void joinedOrder() {
        for (int turn = 0; turn < 2; turn++) {
            Trial t = Trial.gunAndLookers(0);
            t.ball(turn == 0 ? Rows.ONE : Rows.OTHER);
            t.ball(turn == 0 ? Rows.OTHER : Rows.ONE);
            int one = turn;
            // The ball ONE is of the greater scene: OTHER comes first, whatever the balls' numbers.
            t.scene(7, one, true);
            t.scene(0, 1 - one, true);
            t.judgement(0, "same slide=30;");
            t.due(t.joined(0, 0), 1);
            t.due(t.joined(0, 1), 7);
            t.due(t.joined(0, 2), 3);
            t.judgement(0, "same slide=1;");
            t.due(t.joined(0, 0), 2);
            t.due(t.joined(0, 1), Trial.NONE);
        }
    }

    private static void dueGroups(Trial t, int count, int... least) {
        t.due(t.joined(0, 0), count);
        for (int k = 0; k < least.length; k++) {
            t.due(t.joined(0, 10 + k), least[k]);
        }
    }

    private static void groups() {
        Trial t = Stores.scenes(8);
        dueGroups(t, 8, 0, 1, 2, 3, 4, 5, 6, 7);
        Stores.joins(t, 0, 7);
        dueGroups(t, 7, 0, 1, 2, 3, 4, 5, 6, 0);
        // A chain, told from its middle: 5 - 6, 6 - 2, 2 - 7, and 1 - 3.
        Stores.joins(t, 5, 6, 2, 6, 2, 7, 1, 3);
        dueGroups(t, 4, 0, 1, 2, 1, 4, 2, 2, 2);
        // Groups that are made of others at last: 0 - 3, 1 - 2, 2 - 3, 4 - 7, 5 - 6, 6 - 7.
        Stores.joins(t, 0, 3, 1, 2, 2, 3, 4, 7, 5, 6, 6, 7);
        dueGroups(t, 2, 0, 0, 0, 0, 4, 4, 4, 4);
        Stores.joins(t, 0, 7, 1, 7, 2, 7, 3, 7, 4, 7, 5, 7, 6, 7);
        dueGroups(t, 1, 0, 0, 0, 0, 0, 0, 0, 0);
        // The scene between them has no balls any more.
        t.scene(7, 7, false);
        dueGroups(t, 7, 0, 1, 2, 3, 4, 5, 6, Trial.NONE);
        t.scene(0, 0, false);
        dueGroups(t, 6, Trial.NONE, 1, 2, 3, 4, 5, 6, Trial.NONE);
    }

    private static void dueWeakest(Trial t, int scenes, int longest) {
        t.due(t.joined(0, 1), scenes);
        t.due(t.joined(0, 2), longest);
    }

    private static void weakest() {
        Trial t = Stores.scenes(8);
        dueWeakest(t, Trial.NONE, Trial.NONE);
        Stores.joins(t, 0, 1);
        dueWeakest(t, 1, 31);
        Stores.joins(t, 0, 1, 2, 5);
        dueWeakest(t, 8 * 2 + 5, 27);
        Stores.joins(t, 0, 1, 2, 5, 6, 7);
        dueWeakest(t, 8 * 6 + 7, 25);
        Stores.joins(t, 0, 7, 2, 5, 1, 6);
        dueWeakest(t, 7, 25);
        // Joined by a longest of 0: all hairs of ball 3 are missing.
        t.lack(3, 32);
        t.judgement(0, "same longest=0 and lack=32; same lack=1;");
        dueWeakest(t, 3, 0);
        t.judgement(0, "same lack=1;");
        dueWeakest(t, 1, 31);
    }

    private static void bestPair() {
        Trial t = Stores.scenes(6);
        for (int ball = 2; ball < 6; ball++) {
            t.scene(ball, ball, false);
        }
        // Scene 0 has balls 0 and 2, scene 1 balls 1 and 5; scene 2 has ball 3, scene 3 ball 4.
        t.scene(0, 2, true);
        t.scene(1, 5, true);
        t.scene(2, 3, true);
        t.scene(3, 4, true);
        Stores.joins(t, 0, 1, 2, 5, 3, 4);
        dueWeakest(t, 8 * 2 + 3, 28);
        // Of the pair 0 - 1 he no longer says same: the best of the others counts, and it is the weakest now.
        Stores.joins(t, 2, 5, 3, 4);
        dueWeakest(t, 1, 27);
        Stores.joins(t, 0, 5, 3, 4);
        dueWeakest(t, 1, 27);
        Stores.joins(t, 0, 5, 1, 2, 3, 4);
        dueWeakest(t, 8 * 2 + 3, 28);
        Stores.joins(t, 0, 5, 1, 2);
        dueWeakest(t, 1, 30);
    }

    private static void weakestFirst() {
        Trial t = Stores.scenes(8);
        // All that ball 7 has with others is 25 long.
        Stores.joins(t, 6, 7, 5, 7);
        dueWeakest(t, 8 * 5 + 7, 25);
        Stores.joins(t, 6, 7, 5, 7, 0, 7, 0, 1);
        dueWeakest(t, 7, 25);
        // The first of the two decides ahead of the second: 0 - 7 comes ahead of 1 - 2.
        Trial flat = new Trial();
        flat.looker(0);
        for (int k = 0; k < 8; k++) {
            flat.found();
            flat.scene(k, k, true);
        }
        flat.judgement(0, "same 1=1;");
        dueWeakest(flat, 1, 32);
        flat.scene(1, 1, false);
        dueWeakest(flat, 2, 32);
        flat.scene(0, 0, false);
        dueWeakest(flat, 8 * 2 + 3, 32);
        flat.scene(3, 3, false);
        dueWeakest(flat, 8 * 2 + 4, 32);
        Trial ahead = new Trial();
        ahead.looker(0);
        for (int k = 0; k < 4; k++) {
            ahead.found();
        }
        ahead.hair(0, 0, 9);
        ahead.hair(3, 0, 9);
        ahead.hair(1, 0, 8);
        ahead.hair(2, 0, 8);
        ahead.scene(0, 0, true);
        ahead.scene(7, 3, true);
        ahead.scene(1, 1, true);
        ahead.scene(2, 2, true);
        ahead.judgement(0, "same longest=32;");
        dueWeakest(ahead, 7, 32);
        ahead.due(ahead.joined(0, 0), 2);
    }
}
