/** The edges that part 3 of "Terms" names: lookers, rows slid along one another, pieces, what is said. */
final class TermsLookingEdges {
    private TermsLookingEdges() {
    }

    static void add(Edges edges) {
        edges.terms(3, "LOOKERS 0 .. 5 as they come have a MARGIN 0 .. 15.", TermsLookingEdges::lookers);
        edges.terms(3, "Two ROWS, the second one slid by s (0 .. 31):", TermsLookingEdges::slides);
        edges.terms(3, "HAIR i of the first RUNS, if neither it nor HAIR i + s (round) of the second is MISSING,",
                TermsLookingEdges::missing);
        edges.terms(3, "and they are not farther apart than the MARGIN.", TermsLookingEdges::margins);
        edges.terms(3, "MANY of s: how many RUN;", TermsLookingEdges::many);
        edges.terms(3, "BEST: the greatest MANY, of several s the least;", TermsLookingEdges::best);
        edges.terms(3, "LONGEST: the most HAIRS that RUN one behind the other, round,", TermsLookingEdges::longestRound);
        edges.terms(3, "under that s", TermsLookingEdges::longestUnderBest);
        edges.terms(3, "(32 at most).", TermsLookingEdges::longestAtMost);
        edges.terms(3, "PIECES: the most HAIRS that RUN,", TermsLookingEdges::piecesMost);
        edges.terms(3, "if from HAIR 0 to 31", TermsLookingEdges::piecesFromHair0);
        edges.terms(3, "the slide may change by 1 up or down (round)", TermsLookingEdges::piecesByOne);
        edges.terms(3, "between a HAIR and the next one,", TermsLookingEdges::piecesBetween);
        edges.terms(3, "at most 3 times,", TermsLookingEdges::piecesThreeTimes);
        edges.terms(3, "begun with any s.", TermsLookingEdges::piecesAnySlide);
        edges.terms(3, "LACK: how many HAIRS of both are MISSING.", TermsLookingEdges::lack);
        edges.terms(3, "A LOOKER SAYS of two BALLS (the first one's ROW, the second one's):", TermsLookingEdges::saysOrder);
        edges.terms(3, "the first line whose B is so: 1 same, 0 not;", TermsLookingEdges::saysFirstLine);
        edges.terms(3, "none: 2, he can't say.", TermsLookingEdges::cantSay);
        edges.terms(3, "told is 1 or 0.", TermsLookingEdges::told);
    }

    /** A looker of a margin, and balls 0 and 1 by these laws. */
    private static Trial two(int margin, String first, String second) {
        Trial t = Trial.gunAndLookers(margin);
        t.ball(first);
        t.ball(second);
        return t;
    }

    private static void lookers() {
        Trial t = Trial.gun();
        t.ball(Rows.flat(20));
        t.ball(Rows.flat(35));
        t.ball(Rows.flat(36));
        int[] margins = {0, 15, 14, 1, 8, 15};
        int[] manyOf35 = {0, 32, 0, 0, 0, 32};
        t.due(t.looker(-1), Trial.NONE);
        t.due(t.looker(16), Trial.NONE);
        for (int l = 0; l < 6; l++) {
            t.due(t.slid(l, 0, 1, 0), Trial.NONE);
            t.due(t.looker(margins[l]), l);
        }
        for (int l = 0; l < 6; l++) {
            t.due(t.slid(l, 0, 1, 0), manyOf35[l]);
            t.due(t.slid(l, 0, 2, 0), 0);
            t.due(t.slid(l, 1, 1, 0), 32);
        }
        t.due(t.slid(6, 1, 1, 0), Trial.NONE);
        t.due(t.slid(-1, 1, 1, 0), Trial.NONE);
        t.due(t.looker(0), Trial.NONE);
    }

    private static void slides() {
        for (int s : new int[] {0, 1, 16, 30, 31}) {
            Trial t = two(1, Rows.STAIRS, Rows.stairsTurned(s));
            for (int slide = 0; slide < 32; slide++) {
                t.due(t.slid(0, 0, 1, 32 + slide), slide == s ? 32 : 0);
            }
            t.due(t.slid(0, 0, 1, 31), Trial.NONE);
            t.due(t.slid(0, 0, 1, 64), Trial.NONE);
        }
    }

    private static void missing() {
        Trial t = new Trial();
        t.looker(15);
        t.found();
        t.found();
        t.due(t.slid(0, 0, 1, 32), 32);
        t.hair(0, 31, Trial.NONE);
        t.due(t.slid(0, 0, 1, 32), 31);
        t.due(t.slid(0, 1, 0, 32), 31);
        t.hair(1, 0, Trial.NONE);
        t.due(t.slid(0, 0, 1, 32), 30);
        // Slid by 1, hair 31 lies beside hair 0: the two that are missing meet, and do not run.
        t.due(t.slid(0, 0, 1, 33), 31);
        t.due(t.slid(0, 0, 1, 63), 30);
        t.due(t.slid(0, 1, 0, 63), 31);
        // A missing hair is no height beside 0.
        t.hair(1, 0, 0);
        t.due(t.slid(0, 0, 1, 33), 31);
        t.hair(0, 31, 0);
        t.due(t.slid(0, 0, 1, 32), 32);
        t.lack(0, 32);
        for (int s = 0; s < 32; s++) {
            t.due(t.slid(0, 0, 1, 32 + s), 0);
            t.due(t.slid(0, 0, 0, 32 + s), 0);
        }
    }

    private static void margins() {
        for (int margin : new int[] {0, 1, 14, 15}) {
            Trial t = Trial.gunAndLookers(margin);
            t.ball(Rows.flat(20));
            for (int apart : new int[] {margin, margin + 1, -margin, -margin - 1}) {
                int ball = t.ball(Rows.flat(20 + apart));
                int want = Math.abs(apart) <= margin ? 32 : 0;
                t.due(t.slid(0, 0, ball, 0), want);
                t.due(t.slid(0, ball, 0, 0), want);
                t.due(t.slid(0, 0, ball, 32), want);
                t.due(t.slid(0, 0, ball, 3), want);
            }
        }
        Trial t = two(15, Rows.flat(0), Rows.flat(63));
        t.due(t.slid(0, 0, 1, 0), 0);
        t.due(t.slid(0, 1, 0, 0), 0);
    }

    private static void many() {
        Trial t = two(0, Rows.ONE, Rows.OTHER);
        for (int s = 0; s < 32; s++) {
            t.due(t.slid(0, 0, 1, 32 + s), s == 1 || s == 2 ? 3 : 0);
            t.due(t.slid(0, 1, 0, 32 + s), s == 31 || s == 30 ? 3 : 0);
        }
        t.due(t.slid(0, 0, 0, 32), 32);
        // Hairs 0 and 31 count as all others do.
        Trial ends = two(0, Rows.marked(0, 0, 5, 31, 6), Rows.marked(63, 0, 5, 31, 6));
        ends.due(ends.slid(0, 0, 1, 32), 2);
    }

    private static void best() {
        Trial flat = two(0, Rows.flat(5), Rows.flat(5));
        flat.due(flat.slid(0, 0, 1, 0), 32);
        flat.due(flat.slid(0, 0, 1, 1), 0);
        Trial none = two(0, Rows.flat(5), Rows.flat(6));
        none.due(none.slid(0, 0, 1, 0), 0);
        none.due(none.slid(0, 0, 1, 1), 0);
        for (int s = 0; s < 32; s++) {
            Trial stairs = two(0, Rows.STAIRS, Rows.stairsTurned(s));
            stairs.due(stairs.slid(0, 0, 1, 0), 32);
            stairs.due(stairs.slid(0, 0, 1, 1), s);
        }
        Trial tie = two(0, Rows.ONE, Rows.OTHER);
        tie.due(tie.slid(0, 0, 1, 0), 3);
        tie.due(tie.slid(0, 0, 1, 1), 1);
        tie.due(tie.slid(0, 1, 0, 1), 30);
        // One more under the greater slide, and it is the best; one more under the lesser, and that is.
        tie.hair(0, 24, 30);
        tie.hair(1, 26, 30);
        tie.due(tie.slid(0, 0, 1, 0), 4);
        tie.due(tie.slid(0, 0, 1, 1), 2);
        tie.hair(0, 28, 40);
        tie.hair(1, 29, 40);
        tie.due(tie.slid(0, 0, 1, 1), 1);
        // The first slide and the last one.
        Trial ends = two(0, Rows.marked(0, 3, 10, 9, 11), Rows.marked(63, 3, 10, 8, 11));
        ends.due(ends.slid(0, 0, 1, 0), 1);
        ends.due(ends.slid(0, 0, 1, 1), 0);
        ends.hair(1, 3, 63);
        ends.due(ends.slid(0, 0, 1, 1), 31);
    }

    private static void longestRound() {
        // Hairs 30, 31, 0, 1 and hairs 10, 11, 12 run, none of them beside the others.
        String laws = "take 10 when at<2 or at>29; take 11 when at>9 and at<13; take ";
        Trial t = two(0, laws + "0;", laws + "63;");
        t.due(t.slid(0, 0, 1, 0), 7);
        t.due(t.slid(0, 0, 1, 1), 0);
        t.due(t.slid(0, 0, 1, 2), 4);
        t.hair(1, 0, 63);
        t.due(t.slid(0, 0, 1, 2), 3);
        t.hair(1, 0, Trial.NONE);
        t.due(t.slid(0, 0, 1, 2), 3);
        t.hair(1, 11, 63);
        t.due(t.slid(0, 0, 1, 2), 2);
        // 31 and 0 alone are two, 31 alone is one.
        Trial ends = two(0, Rows.marked(0, 31, 8, 0, 9), Rows.marked(63, 31, 8, 0, 9));
        ends.due(ends.slid(0, 0, 1, 2), 2);
        ends.hair(1, 0, 63);
        ends.due(ends.slid(0, 0, 1, 2), 1);
    }

    private static void longestUnderBest() {
        Trial t = two(0, Rows.ONE, Rows.OTHER);
        // Slid by 2 three run one behind the other, but by 1, of as many the least, no two do.
        t.due(t.slid(0, 0, 1, 2), 1);
        t.due(t.slid(0, 1, 0, 2), 3);
        t.hair(0, 24, 30);
        t.hair(1, 26, 30);
        t.due(t.slid(0, 0, 1, 2), 3);
    }

    private static void longestAtMost() {
        Trial t = two(0, Rows.flat(5), Rows.flat(5));
        t.due(t.slid(0, 0, 1, 2), 32);
        t.due(t.slid(0, 0, 0, 2), 32);
        t.hair(1, 17, 6);
        t.due(t.slid(0, 0, 1, 2), 31);
        t.ball(Rows.flat(7));
        t.due(t.slid(0, 0, 2, 2), 0);
        Trial stairs = two(0, Rows.STAIRS, Rows.stairsTurned(31));
        stairs.due(stairs.slid(0, 0, 1, 2), 32);
    }

    /** Two balls in which the hair with each mark runs under one slide alone: hairs, then as many slides. */
    private static void duePieces(int want, int... hairsAndSlides) {
        int marks = hairsAndSlides.length / 2;
        int[] first = new int[2 * marks];
        int[] second = new int[2 * marks];
        for (int n = 0; n < marks; n++) {
            int hair = hairsAndSlides[n];
            first[2 * n] = hair;
            second[2 * n] = (hair + hairsAndSlides[marks + n]) % 32;
            first[2 * n + 1] = 10 + n;
            second[2 * n + 1] = 10 + n;
        }
        Trial t = two(0, Rows.marked(0, first), Rows.marked(63, second));
        t.due(t.slid(0, 0, 1, 3), want);
    }

    private static void piecesMost() {
        Trial flat = two(0, Rows.flat(5), Rows.flat(5));
        flat.due(flat.slid(0, 0, 1, 3), 32);
        Trial none = two(0, Rows.flat(5), Rows.flat(6));
        none.due(none.slid(0, 0, 1, 3), 0);
        Trial t = two(0, Rows.ONE, Rows.OTHER);
        t.due(t.slid(0, 0, 1, 3), 6);
        t.due(t.slid(0, 1, 0, 3), 6);
        // Missing hairs do not run in pieces either.
        t.hair(0, 17, Trial.NONE);
        t.due(t.slid(0, 0, 1, 3), 5);
        t.hair(1, 1, Trial.NONE);
        t.due(t.slid(0, 0, 1, 3), 4);
        // No change, where none makes more.
        duePieces(4, 0, 8, 16, 24, 5, 5, 5, 5);
        duePieces(3, 0, 8, 16, 24, 5, 12, 5, 5);
    }

    private static void piecesFromHair0() {
        // From hair 16 round to hair 15 three would run; from 0 to 31 it is two.
        duePieces(2, 0, 15, 16, 31, 3, 6, 0, 3);
        duePieces(1, 0, 31, 0, 4);
        duePieces(2, 0, 31, 0, 3);
        duePieces(2, 0, 31, 3, 0);
    }

    private static void piecesByOne() {
        duePieces(2, 4, 20, 0, 1);
        duePieces(2, 4, 20, 1, 0);
        duePieces(2, 4, 20, 31, 0);
        duePieces(2, 4, 20, 0, 31);
        duePieces(4, 0, 8, 16, 24, 31, 0, 1, 2);
        duePieces(4, 0, 8, 16, 24, 1, 0, 31, 30);
        duePieces(4, 0, 8, 16, 24, 0, 1, 0, 1);
        duePieces(4, 0, 8, 16, 24, 0, 31, 0, 31);
        // A step of two at once can't be.
        duePieces(1, 4, 5, 0, 2);
        duePieces(1, 4, 5, 31, 1);
        duePieces(2, 4, 6, 0, 2);
        duePieces(1, 4, 20, 0, 15);
    }

    private static void piecesBetween() {
        duePieces(2, 7, 8, 0, 1);
        duePieces(2, 30, 31, 0, 1);
        duePieces(2, 0, 1, 31, 0);
        // Two changes need two hairs, three need three.
        duePieces(1, 4, 5, 0, 2);
        duePieces(2, 4, 6, 0, 2);
        duePieces(1, 4, 6, 0, 3);
        duePieces(2, 4, 7, 0, 3);
        // Down by one, two hairs one behind the other lie beside one and the same hair.
        Trial t = two(0, Rows.marked(0, 7, 10, 8, 10), Rows.marked(63, 8, 10));
        t.due(t.slid(0, 0, 1, 0), 1);
        t.due(t.slid(0, 0, 1, 3), 2);
    }

    private static void piecesThreeTimes() {
        duePieces(3, 0, 6, 12, 0, 1, 2);
        duePieces(4, 0, 6, 12, 18, 0, 1, 2, 3);
        duePieces(4, 0, 6, 12, 18, 24, 0, 1, 2, 3, 4);
        duePieces(4, 0, 6, 12, 18, 24, 4, 3, 2, 1, 0);
        duePieces(4, 0, 6, 12, 18, 24, 0, 1, 0, 1, 0);
        duePieces(1, 0, 20, 0, 4);
        duePieces(2, 0, 20, 0, 3);
        duePieces(2, 0, 20, 29, 0);
        duePieces(1, 0, 20, 28, 0);
        // The three best places for a change, not the three first ones.
        duePieces(6, 0, 4, 8, 12, 16, 20, 24, 0, 1, 0, 0, 1, 2, 2);
    }

    private static void piecesAnySlide() {
        for (int s = 0; s < 32; s++) {
            duePieces(2, 5, 6, s, s);
            duePieces(2, 0, 30, s, (s + 1) % 32);
        }
    }

    private static void lack() {
        Trial t = new Trial();
        t.looker(0);
        t.found();
        t.found();
        t.due(t.slid(0, 0, 1, 4), 0);
        t.hair(0, 0, Trial.NONE);
        t.due(t.slid(0, 0, 1, 4), 1);
        t.due(t.slid(0, 1, 0, 4), 1);
        t.hair(1, 0, Trial.NONE);
        t.due(t.slid(0, 0, 1, 4), 2);
        t.hair(1, 31, Trial.NONE);
        t.due(t.slid(0, 0, 1, 4), 3);
        t.due(t.slid(0, 1, 1, 4), 4);
        t.lack(0, 32);
        t.lack(1, 32);
        t.due(t.slid(0, 0, 1, 4), 64);
        t.due(t.slid(0, 0, 0, 4), 64);
        t.dueJudgement(0, "same lack=64;", 1);
        t.due(t.says(0, 0, 1, false), 1);
    }

    private static void saysOrder() {
        Trial t = two(0, Rows.ONE, Rows.OTHER);
        t.judgement(0, "same slide=1 and longest=1; not slide=30 and longest=3;");
        t.due(t.says(0, 0, 1, false), 1);
        t.due(t.says(0, 1, 0, false), 0);
        t.due(t.says(0, 0, 0, false), 2);
    }

    private static void saysFirstLine() {
        Trial t = two(0, Rows.ONE, Rows.OTHER);
        String[] texts = {"same 1=1; not 1=1;", "not 1=1; same 1=1;", "same 1=2; not 1=1; same 1=1;",
            "not 1=2; same 1=1; not 1=1;", "not 1=2;".repeat(15) + "same 1=1;", "same 1=2;".repeat(15) + "not 1=1;",
            "same best=4; not best=3;", "not longest=3; same longest=1;", "not slide=2; same slide=1;",
            "not pieces=5; same pieces=6;", "not lack=1; same lack=0;"};
        int[] said = {1, 0, 0, 1, 1, 0, 0, 1, 1, 1, 1};
        for (int n = 0; n < texts.length; n++) {
            t.judgement(0, texts[n]);
            t.due(t.says(0, 0, 1, false), said[n]);
            t.due(t.says(0, 0, 1, true), said[n]);
        }
    }

    private static void cantSay() {
        Trial t = two(0, Rows.ONE, Rows.OTHER);
        t.due(t.says(0, 0, 1, false), 2);
        for (String text : new String[] {"same 1=2;", "not 1=2;", "same 1=2; not 1=2;", "not 1=2;".repeat(16), ""}) {
            t.judgement(0, text);
            t.due(t.says(0, 0, 1, false), 2);
            t.due(t.says(0, 0, 1, true), 2);
        }
    }

    private static void told() {
        Trial t = two(0, Rows.ONE, Rows.OTHER);
        t.judgement(0, "same told=1; not told=0;");
        t.due(t.says(0, 0, 1, true), 1);
        t.due(t.says(0, 0, 1, false), 0);
        t.due(t.says(0, 0, 1, true), 1);
        t.judgement(0, "same told*5=5 or told+7=7;");
        t.due(t.says(0, 0, 1, false), 1);
        t.due(t.says(0, 0, 1, true), 1);
        t.judgement(0, "same told>1 or told<0;");
        t.due(t.says(0, 0, 1, false), 2);
        t.due(t.says(0, 0, 1, true), 2);
    }
}
