/** The edges that promises 11 to 15 name: the tape, laws, judgements, faults. */
final class PromiseTextEdges {
    private static final int BLANKS = 0x20202020;

    private PromiseTextEdges() {
    }

    static void add(Edges edges) {
        edges.promise(11, "Twenty bytes come behind the TAPE, of each number the highest first:", PromiseTextEdges::bytes);
        edges.promise(11, "how many it has.", PromiseTextEdges::feedLength);
        edges.promise(11, "NONE, and nothing comes, if there would be more than 600.", PromiseTextEdges::feedFull);
        edges.promise(12, "The TAPE has its first n bytes alone: true;", PromiseTextEdges::end);
        edges.promise(12, "false, changing nothing, if it has not so many,", PromiseTextEdges::endTooMany);
        edges.promise(12, "or n is below 0.", PromiseTextEdges::endBelowZero);
        edges.promise(13, "The TAPE, empty then, are the LAWS:", PromiseTextEdges::lawsEmptyTape);
        edges.promise(13, "how many lines.", PromiseTextEdges::lawsLines);
        edges.promise(13, "NONE: a FAULT (they stay as they were).", PromiseTextEdges::lawsStay);
        edges.promise(14, "The TAPE, empty then, is a LOOKER's JUDGEMENT:", PromiseTextEdges::judgementEmptyTape);
        edges.promise(14, "how many lines.", PromiseTextEdges::judgementLines);
        edges.promise(14, "NONE: no such LOOKER (fault() tells 0),", PromiseTextEdges::judgementOfNobody);
        edges.promise(14, "or a FAULT (it stays as it was).", PromiseTextEdges::judgementStays);
        edges.promise(15, "Of the latest laws() or judgement():", PromiseTextEdges::latestFault);
        edges.promise(15, "what 0 the FAULT (0 without one),", PromiseTextEdges::faultNumber);
        edges.promise(15, "1 its place (NONE).", PromiseTextEdges::faultPlace);
        edges.promise(15, "NONE for another what.", PromiseTextEdges::faultAnotherWhat);
    }

    private static void feedBlanks(Trial t, int times) {
        for (int n = 0; n < times; n++) {
            t.feed(BLANKS, BLANKS, BLANKS, BLANKS, BLANKS);
        }
    }

    private static void bytes() {
        // One byte that can't stand there tells its own place, be it the highest or the lowest of its number.
        for (int place = 0; place < 20; place++) {
            for (int bad : new int[] {'x', 0, 128, 128 + 10, 128 + 32, 255}) {
                int[] numbers = {BLANKS, BLANKS, BLANKS, BLANKS, BLANKS};
                int shift = 24 - 8 * (place % 4);
                numbers[place / 4] = BLANKS & ~(255 << shift) | bad << shift;
                Trial t = new Trial();
                t.due(t.feed(numbers[0], numbers[1], numbers[2], numbers[3], numbers[4]), 20);
                t.due(t.laws(), Trial.NONE);
                t.due(t.fault(1), place);
            }
        }
        // "cut 1+2-3*4/5+at*99;"
        Trial t = new Trial();
        t.tool(0);
        t.due(t.feed(0x63757420, 0x312B322D, 0x332A342F, 0x352B6174, 0x2A39393B), 20);
        t.due(t.laws(), 1);
        t.barrel(0);
        t.due(t.at(0, 0, 0), 1);
        t.due(t.at(0, 0, 1), 63);
        // Behind the tape: a keyword that begins in one call and ends in the next.
        t.due(t.feed(BLANKS, BLANKS, BLANKS, BLANKS, 0x20206375), 20);
        t.due(t.feed(0x7420373B, BLANKS, BLANKS, BLANKS, BLANKS), 40);
        t.due(t.laws(), 1);
        t.barrel(0);
        t.due(t.at(0, 0, 0), 7);
    }

    private static void feedLength() {
        Trial t = new Trial();
        for (int n = 1; n <= 30; n++) {
            t.due(t.feed(BLANKS, 0, -1, n, BLANKS), 20 * n);
        }
        t.end(0);
        t.due(t.feed(0, 0, 0, 0, 0), 20);
        t.end(7);
        t.due(t.feed(0, 0, 0, 0, 0), 27);
        t.end(1);
        t.due(t.feed(0, 0, 0, 0, 0), 21);
        t.laws();
        t.due(t.feed(0, 0, 0, 0, 0), 20);
    }

    private static void feedFull() {
        Trial t = new Trial();
        feedBlanks(t, 29);
        t.due(t.feed(BLANKS, BLANKS, BLANKS, BLANKS, BLANKS), 600);
        t.due(t.feed(0, 0, 0, 0, 0), Trial.NONE);
        t.due(t.feed(0, 0, 0, 0, 0), Trial.NONE);
        t.due(t.end(601), false);
        t.due(t.end(600), true);
        t.due(t.laws(), 0);
        // 580 and 20 are 600, 581 and 20 are one too many, and none of them comes.
        feedBlanks(t, 30);
        t.end(581);
        t.due(t.feed(0, 0, 0, 0, 0), Trial.NONE);
        t.due(t.end(582), false);
        t.due(t.end(581), true);
        t.due(t.laws(), 0);
        feedBlanks(t, 30);
        t.end(580);
        t.due(t.feed(BLANKS, BLANKS, BLANKS, BLANKS, 0x20202078), 600);
        t.due(t.laws(), Trial.NONE);
        t.due(t.fault(1), 599);
        feedBlanks(t, 30);
        t.end(599);
        t.due(t.feed(0, 0, 0, 0, 0), Trial.NONE);
        t.due(t.end(600), false);
    }

    private static void end() {
        Trial t = new Trial();
        t.due(t.end(0), true);
        t.tape("cut 1;cut 2;cut 3; x");
        t.due(t.end(20), true);
        t.due(t.end(19), true);
        t.due(t.end(19), true);
        t.due(t.laws(), 3);
        t.tape("cut 1;cut 2;cut 3; x");
        t.due(t.end(12), true);
        t.due(t.laws(), 2);
        t.tape("cut 1;cut 2;cut 3; x");
        t.due(t.end(1), true);
        t.due(t.laws(), Trial.NONE);
        t.due(t.fault(1), 0);
        t.tape("xxxxxxxxxxxxxxxxxxxx");
        t.due(t.end(0), true);
        t.due(t.laws(), 0);
        // What was behind the end does not come back, nor does it lengthen a token.
        t.tape("cut 12345;          ");
        t.due(t.end(5), true);
        t.due(t.end(6), false);
        t.due(t.laws(), Trial.NONE);
        t.due(t.fault(0), 1);
        t.due(t.fault(1), 5);
        t.tape("cuts 1;             ");
        t.end(3);
        t.tape(" 5;");
        t.due(t.laws(), 1);
    }

    private static void endTooMany() {
        Trial t = new Trial();
        t.due(t.end(1), false);
        t.due(t.end(Trial.MAX), false);
        t.tape("cut 1;cut 2;cut 3;  ");
        for (int n : new int[] {21, 22, 600, 601, Trial.MAX}) {
            t.due(t.end(n), false);
        }
        t.due(t.laws(), 3);
        t.tape("cut 1;");
        t.due(t.end(7), false);
        t.due(t.end(6), true);
        t.due(t.laws(), 1);
        t.due(t.end(1), false);
    }

    private static void endBelowZero() {
        Trial t = new Trial();
        t.due(t.end(-1), false);
        t.tape("cut 1;");
        for (int n : new int[] {-1, -20, Trial.MIN}) {
            t.due(t.end(n), false);
        }
        t.due(t.end(6), true);
        t.due(t.laws(), 1);
    }

    private static void lawsEmptyTape() {
        Trial t = new Trial();
        for (String text : new String[] {"cut 1;", "cut", "", " ".repeat(600), "cut 1;".repeat(17)}) {
            t.laws(text);
            t.due(t.end(1), false);
            t.due(t.end(0), true);
        }
        t.due(t.feed(BLANKS, BLANKS, BLANKS, BLANKS, BLANKS), 20);
        t.due(t.laws(), 0);
        // Laws of an empty tape are none, whatever was ahead.
        t.laws("cut 1;");
        t.due(t.laws(), 0);
        t.due(t.look(5), 0);
        // A judgement's tape is none of the laws'.
        t.looker(0);
        t.judgement(0, "same 1=1;");
        t.due(t.laws(), 0);
    }

    private static void lawsLines() {
        Trial t = new Trial();
        for (int lines = 0; lines <= 16; lines++) {
            t.due(t.laws("take at;".repeat(lines)), lines);
            t.due(t.look(5), lines);
        }
        t.due(t.laws("take at;".repeat(17)), Trial.NONE);
    }

    private static void lawsStay() {
        Trial t = Trial.gun();
        t.laws("take 7; wear 9;");
        for (String text : new String[] {"take 1; take", "take 1/0;", "take 1;".repeat(17), "x", "take 1; wear 2; take 3; 4"}) {
            t.due(t.laws(text), Trial.NONE);
            t.due(t.look(5), 2);
        }
        t.shot(0, 0);
        t.due(t.at(2, 0, 0), 7);
        t.due(t.at(1, 0, 0), 9);
        // Long texts one behind the other, with and without a fault, leave nothing of themselves.
        for (int n = 0; n < 3; n++) {
            t.due(t.laws("take 0" + "+1".repeat(200) + ";"), 1);
            t.due(t.laws("take 0" + "+1".repeat(200)), Trial.NONE);
        }
        t.due(t.laws("take 5" + "-1".repeat(4) + ";"), 1);
        t.shot(0, 0);
        t.due(t.at(2, 1, 0), 1);
        // Behind a fault the next laws are read as ever.
        t.due(t.laws("x"), Trial.NONE);
        t.due(t.laws("take 3;"), 1);
        t.shot(0, 0);
        t.due(t.at(2, 2, 0), 3);
    }

    private static void judgementEmptyTape() {
        Trial t = new Trial();
        t.looker(0);
        t.found();
        for (String text : new String[] {"same 1=1;", "same", "", " ".repeat(600), "not 1=1;".repeat(17)}) {
            t.judgement(0, text);
            t.due(t.end(1), false);
            t.due(t.end(0), true);
        }
        t.judgement(0, "same 1=1;");
        t.due(t.says(0, 0, 0, false), 1);
        t.due(t.judgement(0), 0);
        t.due(t.says(0, 0, 0, false), 2);
        // The laws' tape is none of a judgement's.
        t.laws("cut 1;");
        t.due(t.judgement(0), 0);
        t.due(t.look(5), 1);
    }

    private static void judgementLines() {
        Trial t = new Trial();
        for (int l = 0; l < 6; l++) {
            t.looker(0);
        }
        for (int lines = 0; lines <= 16; lines++) {
            t.due(t.judgement(lines % 6, "not 1=2;".repeat(lines)), lines);
        }
        t.due(t.judgement(5, "not 1=2;".repeat(17)), Trial.NONE);
        t.due(t.look(5), 0);
    }

    private static void judgementOfNobody() {
        Trial t = new Trial();
        t.found();
        t.due(t.judgement(0), Trial.NONE);
        t.due(t.fault(0), 0);
        t.looker(0);
        for (int looker : new int[] {-1, 1, 5, 6, Trial.MIN, Trial.MAX}) {
            t.dueFault("x", 1, 0);
            t.due(t.judgement(looker, "same"), Trial.NONE);
            t.due(t.fault(0), 0);
            t.due(t.fault(1), Trial.NONE);
            // The tape is empty then here too.
            t.due(t.end(1), false);
        }
        t.due(t.judgement(1, "same 1=1;"), Trial.NONE);
        t.due(t.says(0, 0, 0, false), 2);
        t.looker(0);
        t.due(t.says(1, 0, 0, false), 2);
        t.due(t.judgement(1, "same 1=1;"), 1);
        t.due(t.says(1, 0, 0, false), 1);
    }

    private static void judgementStays() {
        Trial t = new Trial();
        t.looker(0);
        t.looker(0);
        t.found();
        t.judgement(0, "same 1=1;");
        t.judgement(1, "not 1=1;");
        for (String text : new String[] {"not 1=1; not", "not 1/0=1;", "not 1=1;".repeat(17), "x", "cut 1;"}) {
            t.due(t.judgement(0, text), Trial.NONE);
            t.due(t.says(0, 0, 0, false), 1);
            t.due(t.says(0, 0, 0, true), 1);
            t.due(t.says(1, 0, 0, false), 0);
        }
        t.due(t.judgement(0, "not 1=1;"), 1);
        t.due(t.says(0, 0, 0, false), 0);
    }

    private static void latestFault() {
        Trial t = new Trial();
        t.looker(0);
        t.due(t.fault(0), 0);
        t.due(t.fault(1), Trial.NONE);
        t.dueFault("cut", 1, 3);
        // Other calls, and the tape, change nothing of it.
        t.tool(0);
        t.barrel(0);
        t.feed(0, 0, 0, 0, 0);
        t.end(0);
        t.due(t.fault(0), 1);
        t.due(t.fault(1), 3);
        t.dueJudgementFault(0, "same 1/0=1;", 2, 7);
        t.due(t.laws("cut 1;"), 1);
        t.due(t.fault(0), 0);
        t.due(t.fault(1), Trial.NONE);
        t.dueFault("cut 1;".repeat(17), 3, 96);
        t.due(t.judgement(0, "same 1=1;"), 1);
        t.due(t.fault(0), 0);
        t.due(t.fault(1), Trial.NONE);
    }

    private static void faultNumber() {
        Trial t = new Trial();
        t.due(t.fault(0), 0);
        t.laws("cut");
        t.due(t.fault(0), 1);
        t.laws("cut 1/0;");
        t.due(t.fault(0), 2);
        t.laws("cut 1;".repeat(17));
        t.due(t.fault(0), 3);
        t.laws("cut 1 when (((((((((");
        t.due(t.fault(0), 3);
        t.laws("cut 1;");
        t.due(t.fault(0), 0);
        t.laws("");
        t.due(t.fault(0), 0);
    }

    private static void faultPlace() {
        Trial t = new Trial();
        t.due(t.fault(1), Trial.NONE);
        t.laws("x");
        t.due(t.fault(1), 0);
        t.laws("cut 1" + " ".repeat(595));
        t.due(t.fault(1), 600);
        t.laws(" ".repeat(599) + "x");
        t.due(t.fault(1), 599);
        t.laws(" ");
        t.due(t.fault(1), Trial.NONE);
    }

    private static void faultAnotherWhat() {
        Trial t = new Trial();
        for (String text : new String[] {"", "cut"}) {
            t.laws(text);
            for (int what : new int[] {-1, 2, 3, Trial.MIN, Trial.MAX}) {
                t.due(t.fault(what), Trial.NONE);
            }
        }
    }
}
