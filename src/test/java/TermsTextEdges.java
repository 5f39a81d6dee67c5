/** The edges that part 2 of "Terms" names: texts, tokens, faults and their places, what the keywords tell. */
final class TermsTextEdges {
    private static final String[] LAW_WORDS = {"at", "high", "left", "right", "draw", "shots", "rust", "soft"};
    private static final String[] JUDGEMENT_WORDS = {"best", "longest", "slide", "pieces", "lack", "told"};
    private static final String SIXTEEN_LAWS = "cut 1;".repeat(16);
    private static final String SIXTEEN_JUDGEMENTS = "not 1=1;".repeat(16);

    private TermsTextEdges() {
    }

    static void add(Edges edges) {
        edges.terms(2, "LAWS are a TEXT (empty at first)", TermsTextEdges::lawsAtFirst);
        edges.terms(2, "= {(cut | wear | take) E [when B] ;}.", TermsTextEdges::lawLines);
        edges.terms(2, "A LOOKER's JUDGEMENT is a TEXT (empty at first)", TermsTextEdges::judgementAtFirst);
        edges.terms(2, "= {(same | not) B ;}.", TermsTextEdges::judgementLines);
        edges.terms(2, "B = A {or A}.", TermsTextEdges::either);
        edges.terms(2, "A = C {and C}.", TermsTextEdges::both);
        edges.terms(2, "C = E (< | = | >) E | no C | ( B ).", TermsTextEdges::claims);
        edges.terms(2, "E = T {(+ | -) T}.", TermsTextEdges::sums);
        edges.terms(2, "T = U {* U | / NUMBER}.", TermsTextEdges::products);
        edges.terms(2, "U = NUMBER | at | high | left | right | draw | shots | rust | soft in LAWS; NUMBER | best | longest"
                + " | slide | pieces | lack | told in JUDGEMENTS.", TermsTextEdges::parts);
        edges.terms(2, "TOKENS: letters as many as stand together are KEYWORDS (those told for such a TEXT) or none;",
                TermsTextEdges::keywords);
        edges.terms(2, "digits as many as stand together NUMBERS of 1 to 4 digits or none;", TermsTextEdges::numbers);
        edges.terms(2, "; + - * / ( ) < = > .", TermsTextEdges::signs);
        edges.terms(2, "Blanks (32, 10) between.", TermsTextEdges::blanks);
        edges.terms(2, "Ints, which wrap;", TermsTextEdges::wrap);
        edges.terms(2, "/ goes towards 0.", TermsTextEdges::towardsZero);
        edges.terms(2, "FAULTS, the first by its place,", TermsTextEdges::firstFault);
        edges.terms(2, "at one place the least:", TermsTextEdges::leastFault);
        edges.terms(2, "1 what can't stand there (the end: the text's length).", TermsTextEdges::cantStand);
        edges.terms(2, "2 (at the NUMBER) a part by 0.", TermsTextEdges::partByZero);
        edges.terms(2, "3 (at its KEYWORD) the 17th line;", TermsTextEdges::seventeenthLine);
        edges.terms(2, "(at it) the 9th ( or no that is open.", TermsTextEdges::ninthOpen);
        edges.terms(2, "at is the HAIR's number, high its height, left that of HAIR at - 1, right that of at + 1 (round),",
                TermsTextEdges::besideRound);
        edges.terms(2, "all as ahead;", TermsTextEdges::asAhead);
        edges.terms(2, "draw its DRAW;", TermsTextEdges::drawOfHair);
        edges.terms(2, "shots of the BARREL (for cut: how many BARRELS the TOOL has cut, this one too; for wear: ahead of"
                + " this SHOT),", TermsTextEdges::shots);
        edges.terms(2, "rust of the BARREL,", TermsTextEdges::rust);
        edges.terms(2, "soft of the SHOT (0 for cut).", TermsTextEdges::soft);
    }

    private static void reads(String laws, int lines) {
        new Trial().dueLaws(laws, lines);
    }

    private static void refuses(String laws, int fault, int place) {
        new Trial().dueFault(laws, fault, place);
    }

    private static void readsJudgement(String text, int lines) {
        Trial t = new Trial();
        t.looker(0);
        t.dueJudgement(0, text, lines);
    }

    private static void refusesJudgement(String text, int fault, int place) {
        Trial t = new Trial();
        t.looker(0);
        t.dueJudgementFault(0, text, fault, place);
    }

    /** What a sum of 0 .. 63 is worth for hair 0 of a first shot. */
    private static void isWorth(String sum, int want) {
        Trial t = Trial.gun();
        t.dueLaws("take " + sum + ";", 1);
        t.shot(0, 0);
        t.due(t.at(2, 0, 0), want);
    }

    private static void isSo(String claim, boolean want) {
        Trial t = Trial.gun();
        t.dueLaws("take 1 when " + claim + "; take 2;", 2);
        t.shot(0, 0);
        t.due(t.at(2, 0, 0), want ? 1 : 2);
    }

    private static void lawsAtFirst() {
        Trial t = Trial.gun();
        t.due(t.look(5), 0);
        t.shot(0, 9);
        for (int what = 0; what < 3; what++) {
            t.due(t.at(what, 0, 0), 32);
            t.due(t.at(what, 0, 31), 32);
        }
    }

    private static void lawLines() {
        reads("", 0);
        reads("cut 1;", 1);
        reads("wear 1;", 1);
        reads("take 1;", 1);
        reads("cut 1 when 1=1;", 1);
        reads("cut 1;wear 2;take 3 when 1=1;cut 4;", 4);
        refuses("cut 1", 1, 5);
        refuses("cut;", 1, 3);
        refuses("cut when 1=1;", 1, 4);
        refuses("1;", 1, 0);
        refuses(";", 1, 0);
        refuses("cut 1;;", 1, 6);
        refuses("cut cut 1;", 1, 4);
        refuses("when 1=1;", 1, 0);
        refuses("cut 1 when;", 1, 10);
        refuses("cut 1 when 1=1 when 1=1;", 1, 15);
        refuses("cut 1 when 1=1", 1, 14);
        refuses("cut 1 cut 2;", 1, 6);
        refuses("cut 1=1;", 1, 5);
        refuses("cut 1 or 1=1;", 1, 6);
    }

    private static void judgementAtFirst() {
        Trial t = new Trial();
        t.found();
        for (int l = 0; l < 6; l++) {
            t.looker(l);
            t.due(t.says(l, 0, 0, false), 2);
            t.due(t.says(l, 0, 0, true), 2);
        }
    }

    private static void judgementLines() {
        readsJudgement("", 0);
        readsJudgement("same 1=1;", 1);
        readsJudgement("not 1=1;", 1);
        readsJudgement("same 1=1;not 1=1;same 1=2;", 3);
        refusesJudgement("same 1=1", 1, 8);
        refusesJudgement("same;", 1, 4);
        refusesJudgement("same 1;", 1, 6);
        refusesJudgement("1=1;", 1, 0);
        refusesJudgement(";", 1, 0);
        refusesJudgement("same 1=1;;", 1, 9);
        refusesJudgement("same 1=1 when 1=1;", 1, 9);
        refusesJudgement("same 1 when 1=1;", 1, 7);
        refusesJudgement("same not 1=1;", 1, 5);
        refusesJudgement("cut 1;", 1, 0);
    }

    private static void either() {
        isSo("1=2", false);
        isSo("1=2 or 1=2", false);
        isSo("1=1 or 1=2", true);
        isSo("1=2 or 1=2 or 1=1", true);
        isSo("1=2 or ".repeat(60) + "1=1", true);
        isSo("1=2 or ".repeat(60) + "1=2", false);
        refuses("cut 1 when 1=1 or;", 1, 17);
        refuses("cut 1 when or 1=1;", 1, 11);
        refuses("cut 1 when 1=1 or or 1=1;", 1, 18);
        refuses("cut 1 when 1=1 or 1;", 1, 19);
    }

    private static void both() {
        isSo("1=1 and 1=2", false);
        isSo("1=2 and 1=1", false);
        isSo("1=1 and 1=1 and 1=2", false);
        isSo("1=1 and ".repeat(60) + "1=1", true);
        isSo("1=1 and ".repeat(60) + "1=2", false);
        // What is joined by and stands together ahead of or.
        isSo("1=1 or 1=1 and 1=2", true);
        isSo("1=2 and 1=2 or 1=1", true);
        isSo("1=2 and 1=1 or 1=1 and 1=2", false);
        refuses("cut 1 when 1=1 and;", 1, 18);
        refuses("cut 1 when and 1=1;", 1, 11);
        refuses("cut 1 when 1=1 and and 1=1;", 1, 19);
        refuses("cut 1 when 1=1 1=1;", 1, 15);
    }

    private static void claims() {
        isSo("1<2", true);
        isSo("2<2", false);
        isSo("3<2", false);
        isSo("1=2", false);
        isSo("2=2", true);
        isSo("3=2", false);
        isSo("1>2", false);
        isSo("2>2", false);
        isSo("3>2", true);
        isSo("0-1<0", true);
        isSo("no 1=1", false);
        isSo("no no 1=1", true);
        isSo("no (1=2 and 1=2)", true);
        // no takes the nearest C alone.
        isSo("no 1=2 and 1=2", false);
        isSo("no 1=1 or 1=1", true);
        isSo("(1=1 or 1=1) and 1=2", false);
        isSo("((1=1))", true);
        isSo("1+1<2*2", true);
        refuses("cut 1 when 1;", 1, 12);
        refuses("cut 1 when 1<;", 1, 13);
        refuses("cut 1 when <1;", 1, 11);
        refuses("cut 1 when 1<2<3;", 1, 14);
        refuses("cut 1 when 1==1;", 1, 13);
        refuses("cut 1 when 1<=1;", 1, 13);
        refuses("cut 1 when no;", 1, 13);
        refuses("cut 1 when no 1;", 1, 15);
        refuses("cut 1 when 1=no 1=1;", 1, 13);
        refuses("cut 1 when ();", 1, 12);
        refuses("cut 1 when (1=1;", 1, 15);
        refuses("cut 1 when (1=1", 1, 15);
        refuses("cut 1 when 1=1);", 1, 14);
        refuses("cut 1 when (1)<2;", 1, 13);
        refuses("cut 1 when 1<(2);", 1, 13);
        refuses("cut 1 when (1=1)=1;", 1, 16);
    }

    private static void sums() {
        isWorth("7", 7);
        isWorth("20-3-2", 15);
        isWorth("20-3+2", 19);
        isWorth("3-20+20", 3);
        isWorth("1+2*3", 7);
        isWorth("20-2*3-4", 10);
        isWorth("1" + "+1".repeat(59), 60);
        refuses("cut -1;", 1, 4);
        refuses("cut +1;", 1, 4);
        refuses("cut 1+;", 1, 6);
        refuses("cut 1-;", 1, 6);
        refuses("cut 1--1;", 1, 6);
        refuses("cut 1+-1;", 1, 6);
        refuses("cut 1+(1);", 1, 6);
    }

    private static void products() {
        isWorth("2*3*4", 24);
        isWorth("7/2*2", 6);
        isWorth("2*7/2", 7);
        isWorth("60/2/3", 10);
        isWorth("63/1", 63);
        isWorth("0/5", 0);
        isWorth("4/5", 0);
        isWorth("5/5", 1);
        isWorth("high/9999+high/32", 1);
        refuses("cut 8/at;", 1, 6);
        refuses("cut 8/high;", 1, 6);
        refuses("cut 8/;", 1, 6);
        refuses("cut 8*;", 1, 6);
        refuses("cut 8*/2;", 1, 6);
        refuses("cut 8/*2;", 1, 6);
        refuses("cut *8;", 1, 4);
        refuses("cut /8;", 1, 4);
        refuses("cut 8/(2);", 1, 6);
        refuses("cut 8/-2;", 1, 6);
    }

    private static void parts() {
        for (String word : LAW_WORDS) {
            reads("cut " + word + ";", 1);
            reads("wear 2*" + word + " when " + word + "=" + word + ";", 1);
            refusesJudgement("same " + word + "=1;", 1, 5);
        }
        for (String word : JUDGEMENT_WORDS) {
            readsJudgement("same " + word + "=" + word + ";", 1);
            refuses("cut " + word + ";", 1, 4);
            refuses("cut 1 when " + word + "=1;", 1, 11);
        }
        for (String word : new String[] {"cut", "wear", "take", "when", "same", "not", "or", "and", "no"}) {
            refuses("cut " + word + ";", 1, 4);
            refusesJudgement("same 1=" + word + ";", 1, 7);
        }
        reads("cut 0;", 1);
        readsJudgement("same 0=0;", 1);
    }

    private static void keywords() {
        reads("cut at;", 1);
        refuses("cutat;", 1, 0);
        refuses("cu t at;", 1, 0);
        refuses("cut atat;", 1, 4);
        refuses("cut hig;", 1, 4);
        refuses("cut highs;", 1, 4);
        refuses("cut a;", 1, 4);
        refuses("cut at1;", 1, 6);
        refuses("cut xyz;", 1, 4);
        refuses("cut 1 when1=1whe;", 1, 13);
        reads("cut 1when 1=1;", 1);
        reads("cut at when(at=1)or(at=2);", 1);
        // Letters of either case are letters, and no keyword has a great one.
        refuses("Cut 1;", 1, 0);
        refuses("cut AT;", 1, 4);
        refuses("cut 1 When 1=1;", 1, 6);
        refuses("cutA 1;", 1, 0);
        refuses("cut atZ;", 1, 4);
        refuses("cut zat;", 1, 4);
        for (char letter : new char[] {'a', 'z', 'A', 'Z'}) {
            refuses("cut" + letter + " 1;", 1, 0);
        }
        // What stands beside the letters in the order of the bytes is none.
        for (char beside : new char[] {'@', '[', '`', '{'}) {
            refuses("cut" + beside + " 1;", 1, 3);
        }
        refuses("cut " + "a".repeat(596), 1, 4);
        // Those of the other text are none here.
        refuses("same 1=1;", 1, 0);
        refuses("cut 1;not 1=1;", 1, 6);
        refuses("cut told;", 1, 4);
        refusesJudgement("take 1;", 1, 0);
        refusesJudgement("same at=1;", 1, 5);
        refusesJudgement("same 1=1 when 1=1;", 1, 9);
        refusesJudgement("samebest=1;", 1, 0);
    }

    private static void numbers() {
        isWorth("7", 7);
        isWorth("07", 7);
        isWorth("007", 7);
        isWorth("0007", 7);
        isWorth("0000", 0);
        isSo("9999=9998+1", true);
        isSo("1000=10*100", true);
        isSo("0010=10", true);
        refuses("cut 10000;", 1, 4);
        refuses("cut 00000;", 1, 4);
        refuses("cut 00001;", 1, 4);
        refuses("cut 99999;", 1, 4);
        refuses("cut " + "1".repeat(596), 1, 4);
        refuses("cut 1+12345;", 1, 6);
        refuses("cut 1 0;", 1, 6);
        refuses("cut 1/00000;", 1, 6);
    }

    private static void signs() {
        reads("cut 1+2-3*4/5 when(1<2 or 1=2 or 2>1);", 1);
        String others = "";
        for (int c = 0; c < 256; c++) {
            boolean isBlank = c == 32 || c == 10;
            boolean isWord = (c >= '0' && c <= '9') || (c >= 'A' && c <= 'Z') || (c >= 'a' && c <= 'z');
            if (!isBlank && !isWord && ";+-*/()<=>".indexOf(c) < 0) {
                others += (char) c;
            }
        }
        for (char c : others.toCharArray()) {
            refuses("cut 1" + c + ";", 1, 5);
            refuses("" + c, 1, 0);
            refuses("cut 1;" + c, 1, 6);
        }
        for (String doubled : new String[] {"++", "**", "//", "==", "<<", "<="}) {
            refuses("cut 1 when 1" + doubled + "1=1;", 1, 13);
        }
    }

    private static void blanks() {
        reads(" ", 0);
        reads("\n", 0);
        reads("  \n\n  ", 0);
        reads(" ".repeat(600), 0);
        reads("\n cut\n1\n;\n", 1);
        reads("cut   \n  1 \n when 1\n=\n1 ;   ", 1);
        reads("cut 1when 1=1and 1=1or no(1=1);take 1;", 2);
        refuses("c ut 1;", 1, 0);
        refuses("cut 1 0;", 1, 6);
        refuses("cut\n1\n0;", 1, 6);
        refuses("cut\t1;", 1, 3);
        refuses("cut\r\n1;", 1, 3);
        refuses("cut\u00a01;", 1, 3);
        refuses("cut\u00001;", 1, 3);
    }

    private static void wrap() {
        // 9999*9999*21 + 9999*4790 + 8416 is the greatest int.
        String greatest = "9999*9999*21+9999*4790+8416";
        isSo(greatest + ">0", true);
        isSo(greatest + "+1<0", true);
        isSo(greatest + "+1=0-1-9999*9999*21-9999*4790-8416", true);
        isSo("0-1-9999*9999*21-9999*4790-8416<0", true);
        isSo("0-1-9999*9999*21-9999*4790-8416-1=" + greatest, true);
        isSo("9999*9999*22<0", true);
        isSo("4096*4096*256=0", true);
        isSo("4096*4096*128<0", true);
        isSo("4096*4096*128-1=" + greatest, true);
    }

    private static void towardsZero() {
        isWorth("7/2", 3);
        isWorth("1/2", 0);
        // A part of what is below 0: 9999*9999*22 wraps to -2095407274, a fifth of which is -419081454.8.
        isSo("9999*9999*22/5+9999*9999*4+9999*1916+3366=0", true);
        // A third of the least int is -715827882.7, and 9999*9999*7 + 9999*1596 + 9471 is 715827882.
        isSo("4096*4096*128/3+9999*9999*7+9999*1596+9471=0", true);
        isSo("4096*4096*128/1=4096*4096*128", true);
        isSo("4096*4096*128/9999<0", true);
    }

    private static void firstFault() {
        refuses("cut 1/0;cut;", 2, 6);
        refuses("cut;cut 1/0;", 1, 3);
        refuses("cut 1/0/0;", 2, 6);
        refuses("cut 1/0", 2, 6);
        refuses("cut 1/0 x", 2, 6);
        refuses("cut 1/0 when (((((((((1=1", 2, 6);
        refuses("cut 1 when (((((((((1/0=1", 3, 19);
        refuses("cut 1 when x(((((((((1=1", 1, 11);
        refuses(SIXTEEN_LAWS.replaceFirst("1", "x") + "cut 1;", 1, 4);
        refuses(SIXTEEN_LAWS + "cut 1/0;", 3, 96);
        refuses("cut 1/0;" + SIXTEEN_LAWS, 2, 6);
        refusesJudgement("same 1/0=x;", 2, 7);
        refusesJudgement("same x=1/0;", 1, 5);
    }

    private static void leastFault() {
        // The ninth ( or no where none can stand, and what is no 17th line's keyword.
        refuses("cut 1 when ((((((((1=(1", 1, 21);
        refuses("cut 1 when ((((((((1=no 1", 1, 21);
        refuses("cut 1 when ((((((((1+(1", 1, 21);
        refuses("cut 1 when ((((((((1=1 (1", 1, 23);
        refuses("cut 1 when ((((((((1/(1", 1, 21);
        refuses(SIXTEEN_LAWS + "same 1=1;", 1, 96);
        refuses(SIXTEEN_LAWS + "when 1=1;", 1, 96);
        refuses(SIXTEEN_LAWS + ";", 1, 96);
        refuses(SIXTEEN_LAWS + "1;", 1, 96);
        refuses("cut 1;".repeat(15) + "cut 1 cut 1;", 1, 96);
        refusesJudgement(SIXTEEN_JUDGEMENTS + "cut 1;", 1, 128);
        refusesJudgement(SIXTEEN_JUDGEMENTS + "no 1=1;", 1, 128);
        // A part by what is no number can't stand there, also if it is all 0.
        refuses("cut 1/00000;", 1, 6);
    }

    private static void cantStand() {
        refuses("x", 1, 0);
        refuses("  x", 1, 2);
        refuses("cut", 1, 3);
        refuses("cut   ", 1, 6);
        refuses("cut 1", 1, 5);
        refuses("cut 1 \n", 1, 7);
        refuses("cut 1 when", 1, 10);
        refuses("cut 1/", 1, 6);
        refuses("cut 1" + " ".repeat(595), 1, 600);
        refuses("cut 1" + "+1".repeat(297) + " ", 1, 600);
        refuses("cut 1" + "+1".repeat(297) + "+", 1, 600);
        // As many tokens as there can be bytes.
        refuses(";".repeat(600), 1, 0);
        refuses(" ".repeat(599) + ";", 1, 599);
        refuses("cut 1;cut", 1, 9);
        refusesJudgement("same", 1, 4);
        refusesJudgement("same 1=1 ", 1, 9);
        // At the end of what is whole nothing is missing.
        reads("cut 1; ", 1);
        reads("cut 1;" + " ".repeat(594), 1);
        // The text's length is that of the tape as it was ended.
        Trial t = new Trial();
        t.tape("cut 1;  ");
        t.end(5);
        t.due(t.laws(), Trial.NONE);
        t.due(t.fault(1), 5);
    }

    private static void partByZero() {
        refuses("cut 1/0;", 2, 6);
        refuses("cut 1 / 0;", 2, 8);
        refuses("cut 1/ \n 0;", 2, 9);
        refuses("cut 1/00;", 2, 6);
        refuses("cut 1/000;", 2, 6);
        refuses("cut 1/0000;", 2, 6);
        refuses("cut 1/2/0;", 2, 8);
        refuses("cut 1*2/0;", 2, 8);
        refuses("cut 0/0;", 2, 6);
        refuses("cut 1 when 1/0=1;", 2, 13);
        refuses("cut 1 when 1=1/0;", 2, 15);
        refuses("cut 1 when 1=2 and 1/0=1;", 2, 21);
        refuses("cut 1;cut 1/0;", 2, 12);
        refusesJudgement("same best/0=1;", 2, 10);
        reads("cut 1/1;", 1);
        reads("cut 1/0001;", 1);
        reads("cut 1/10;", 1);
        reads("cut 0/1;", 1);
        reads("cut 1*0;", 1);
        reads("cut 1-0;", 1);
    }

    private static void seventeenthLine() {
        reads("cut 1;".repeat(15), 15);
        reads(SIXTEEN_LAWS, 16);
        reads(SIXTEEN_LAWS + "  \n ", 16);
        refuses(SIXTEEN_LAWS + "cut 1;", 3, 96);
        refuses(SIXTEEN_LAWS + "wear 1;", 3, 96);
        refuses(SIXTEEN_LAWS + "take", 3, 96);
        refuses(SIXTEEN_LAWS + " \n cut 1;", 3, 99);
        refuses("cut 1;".repeat(18), 3, 96);
        refuses("take 1 when 1=1;".repeat(17), 3, 256);
        readsJudgement(SIXTEEN_JUDGEMENTS, 16);
        refusesJudgement(SIXTEEN_JUDGEMENTS + "same 1=1;", 3, 128);
        refusesJudgement(SIXTEEN_JUDGEMENTS + "not", 3, 128);
        // The lines of a text ahead are none of the next one's.
        Trial t = new Trial();
        t.dueLaws(SIXTEEN_LAWS, 16);
        t.dueLaws(SIXTEEN_LAWS, 16);
        t.dueFault(SIXTEEN_LAWS + "cut 1;", 3, 96);
        t.dueLaws(SIXTEEN_LAWS, 16);
    }

    private static void ninthOpen() {
        reads("cut 1 when " + "(".repeat(8) + "1=1" + ")".repeat(8) + ";", 1);
        refuses("cut 1 when " + "(".repeat(9) + "1=1" + ")".repeat(9) + ";", 3, 19);
        refuses("cut 1 when " + "(".repeat(9), 3, 19);
        refuses("cut 1 when " + "( ".repeat(9), 3, 27);
        refuses("cut 1 when " + "(".repeat(8), 1, 19);
        reads("cut 1 when " + "no ".repeat(8) + "1=1;", 1);
        refuses("cut 1 when " + "no ".repeat(9) + "1=1;", 3, 35);
        reads("cut 1 when " + "no(".repeat(4) + "1=1" + ")".repeat(4) + ";", 1);
        refuses("cut 1 when " + "no(".repeat(4) + "(1=1" + ")".repeat(5) + ";", 3, 23);
        refuses("cut 1 when " + "no(".repeat(4) + "no 1=1" + ")".repeat(4) + ";", 3, 23);
        refuses("cut 1 when " + "(".repeat(8) + "no 1=1" + ")".repeat(8) + ";", 3, 19);
        refuses("cut 1 when " + "no ".repeat(8) + "(1=1);", 3, 35);
        refuses("cut 1 when " + "(".repeat(7) + "no no 1=1" + ")".repeat(7) + ";", 3, 21);
        refusesJudgement("same " + "(".repeat(9), 3, 13);
        readsJudgement("same " + "(".repeat(8) + "1=1" + ")".repeat(8) + ";", 1);
        // Those that are closed do not count.
        reads("cut 1 when " + "(1=1)and ".repeat(9) + "1=1;", 1);
        reads("cut 1 when " + "no 1=1 or ".repeat(9) + "1=1;", 1);
        reads("cut 1 when " + "no(1=1)and ".repeat(9) + "no 1=1;", 1);
        reads("cut 1 when " + "(".repeat(8) + "1=1)and(1=1)or(1=1)" + ")".repeat(7) + ";", 1);
        reads("cut 1 when " + "(".repeat(7) + "no 1=1 and no 1=1" + ")".repeat(7) + ";", 1);
        refuses("cut 1 when " + "(".repeat(8) + "1=1)and((1=1))" + ")".repeat(7) + ";", 3, 27);
        refuses("cut 1 when " + "(".repeat(8) + "1=1 and(1=1)" + ")".repeat(8) + ";", 3, 26);
        reads(("cut 1 when " + "(".repeat(8) + "1=1" + ")".repeat(8) + ";").repeat(3), 3);
    }

    private static void besideRound() {
        Trial t = new Trial();
        t.tool(0);
        for (int i = 0; i < 32; i++) {
            t.edge(0, i, 63 - i);
        }
        t.barrel(0);
        int[][] dues = {{0, 31}, {63, 32}, {32, 33}, {62, 63}};
        String[] words = {"at", "high", "left", "right"};
        for (int n = 0; n < 4; n++) {
            t.ball("take " + words[n] + ";");
            t.due(t.at(2, n, 0), dues[n][0]);
            t.due(t.at(2, n, 31), dues[n][1]);
        }
        t.due(t.at(2, 0, 17), 17);
        t.due(t.at(2, 1, 17), 46);
        t.due(t.at(2, 2, 17), 47);
        t.due(t.at(2, 3, 17), 45);
    }

    private static void asAhead() {
        Trial t = new Trial();
        t.tool(0);
        t.edge(0, 0, 0);
        t.barrel(0);
        // Hair 0 is 0, all others 32: a change that has been made may not be seen by the hair behind it.
        t.laws("wear left+1;");
        t.shot(0, 0);
        t.due(t.at(1, 0, 0), 33);
        t.due(t.at(1, 0, 1), 1);
        t.due(t.at(1, 0, 2), 33);
        t.due(t.at(1, 0, 31), 33);
        t.laws("take right+1;");
        t.shot(0, 0);
        t.due(t.at(2, 1, 0), 2);
        t.due(t.at(2, 1, 31), 34);
        t.laws("take high+1 when left>1 and right>1;");
        t.shot(0, 0);
        t.due(t.at(2, 2, 31), 34);
    }

    private static void drawOfHair() {
        Trial t = new Trial();
        t.tool(11);
        t.laws("cut draw; take draw; wear draw;");
        t.barrel(0);
        t.shot(0, 0);
        // Tool and barrel had one state: cut and take have the same draws, hair by hair, and wear those behind them.
        t.dueRow(0, 0, TermsMakingEdges.draws(11, 0));
        t.dueRow(2, 0, TermsMakingEdges.draws(11, 0));
        t.dueRow(1, 0, TermsMakingEdges.draws(11, 32));
        // It is the draw in B too, and in both parts of a line the same.
        t.laws("take draw+20 when draw>7; take draw+40;");
        t.shot(0, 0);
        int[] draws = TermsMakingEdges.draws(11, 64);
        for (int i = 0; i < 32; i++) {
            t.due(t.at(2, 1, i), draws[i] > 7 ? draws[i] + 20 : draws[i] + 40);
        }
        t.laws("take 1 when draw<16 and draw>0-1; take 2;");
        t.shot(0, 0);
        t.due(t.at(2, 2, 0), 1);
        t.due(t.at(2, 2, 31), 1);
        // One hair has one draw, however often it is asked.
        t.laws("take 1 when draw=draw and draw-draw=0; take 2;");
        t.shot(0, 0);
        t.due(t.at(2, 3, 0), 1);
        t.due(t.at(2, 3, 31), 1);
    }

    private static void shots() {
        Trial t = new Trial();
        t.tool(0);
        t.tool(0);
        t.laws("cut shots; take shots; wear shots+40;");
        int[] tools = {0, 0, 1, 0, 1};
        int[] counts = {1, 2, 1, 3, 2};
        for (int n = 0; n < 5; n++) {
            t.barrel(tools[n]);
            t.due(t.at(0, tools[n], 0), counts[n]);
        }
        int[] guns = {3, 3, 0, 3, 0};
        int[] ahead = {0, 1, 0, 2, 1};
        for (int n = 0; n < 5; n++) {
            t.shot(guns[n], 0);
            t.due(t.at(2, n, 0), ahead[n]);
            t.due(t.at(1, guns[n], 0), 40 + ahead[n]);
        }
        t.barrel(0);
        t.due(t.at(0, 0, 0), 4);
        // Found balls are no shots.
        t.found();
        t.shot(0, 0);
        t.due(t.at(2, 6, 0), 2);
    }

    private static void rust() {
        Trial t = Trial.gun();
        t.barrel(0);
        t.laws("take rust; wear rust+1; cut rust+2;");
        t.shot(0, 0);
        t.due(t.at(2, 0, 0), 0);
        t.due(t.at(1, 0, 0), 1);
        t.rust(0, 60);
        t.rust(1, 5);
        t.shot(0, 0);
        t.due(t.at(2, 1, 0), 60);
        t.due(t.at(1, 0, 0), 61);
        t.rust(0, 99);
        t.laws("take rust-90;");
        t.shot(0, 0);
        t.due(t.at(2, 2, 0), 9);
        // A barrel that is being cut has no rust.
        t.laws("cut rust+2;");
        t.barrel(0);
        t.due(t.at(0, 0, 0), 2);
    }

    private static void soft() {
        Trial t = Trial.gun();
        t.laws("take soft; wear soft+10; cut soft+20;");
        t.shot(0, 0);
        t.due(t.at(2, 0, 0), 0);
        t.due(t.at(1, 0, 0), 10);
        t.shot(0, 9);
        t.due(t.at(2, 1, 0), 9);
        t.due(t.at(1, 0, 0), 19);
        t.barrel(0);
        t.due(t.at(0, 0, 0), 20);
        t.shot(1, 4);
        t.due(t.at(2, 2, 0), 4);
    }
}
