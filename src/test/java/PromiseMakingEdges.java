/** The edges that promises 1 to 10 and 30 name: tools, barrels, balls, and what is told of them. */
final class PromiseMakingEdges {
    /** What is no number of anything, however many there are. */
    private static final int[] NEVER = {-1, -2, 64, Trial.MIN, Trial.MAX};

    private PromiseMakingEdges() {
    }

    static void add(Edges edges) {
        edges.promise(1, "No TOOLS.", PromiseMakingEdges::noTools);
        edges.promise(2, "A TOOL: its number;", PromiseMakingEdges::tool);
        edges.promise(2, "NONE if there are six.", PromiseMakingEdges::sixTools);
        edges.promise(3, "HAIR i of an EDGE: true;", PromiseMakingEdges::edge);
        edges.promise(3, "false if one can't be.", PromiseMakingEdges::edgeRefused);
        edges.promise(4, "A TOOL cuts a BARREL: its number;", PromiseMakingEdges::barrel);
        edges.promise(4, "NONE if there is no such TOOL,", PromiseMakingEdges::barrelOfNoTool);
        edges.promise(4, "or there are 16.", PromiseMakingEdges::sixteenBarrels);
        edges.promise(5, "RUST of a BARREL: true;", PromiseMakingEdges::rust);
        edges.promise(5, "false if one can't be.", PromiseMakingEdges::rustRefused);
        edges.promise(6, "A SHOT: the BALL;", PromiseMakingEdges::shot);
        edges.promise(6, "NONE if one can't be,", PromiseMakingEdges::shotRefused);
        edges.promise(6, "or there are 40.", PromiseMakingEdges::shotOfForty);
        edges.promise(7, "A BALL is FOUND: its number;", PromiseMakingEdges::found);
        edges.promise(7, "NONE if there are 40.", PromiseMakingEdges::foundOfForty);
        edges.promise(8, "HAIR i of a BALL is told (v NONE: MISSING): true;", PromiseMakingEdges::hair);
        edges.promise(8, "false if one can't be.", PromiseMakingEdges::hairRefused);
        edges.promise(9, "The height of HAIR i: what 0 of a TOOL's EDGE, 1 of a BARREL's ROW, 2 of a BALL's",
                PromiseMakingEdges::at);
        edges.promise(9, "(NONE if MISSING).", PromiseMakingEdges::atMissing);
        edges.promise(9, "NONE - 1 if there is none such,", PromiseMakingEdges::atNoneSuch);
        edges.promise(9, "or another what.", PromiseMakingEdges::atAnotherWhat);
        edges.promise(10, "Of a BALL what 0 its BARREL (NONE if FOUND),", PromiseMakingEdges::ballsBarrel);
        edges.promise(10, "1 the number of the SHOT (from 0; NONE if FOUND),", PromiseMakingEdges::ballsShot);
        edges.promise(10, "2 its SOFT (NONE if FOUND),", PromiseMakingEdges::ballsSoft);
        edges.promise(10, "3 HAIRS that are MISSING;", PromiseMakingEdges::ballsMissing);
        edges.promise(10, "of a BARREL what 10 its TOOL,", PromiseMakingEdges::barrelsTool);
        edges.promise(10, "11 which of the TOOL's it is (from 0),", PromiseMakingEdges::barrelsPlace);
        edges.promise(10, "12 SHOTS, 13 RUST.", PromiseMakingEdges::barrelsShotsAndRust);
        edges.promise(10, "NONE - 1 if there is none such,", PromiseMakingEdges::ofNoneSuch);
        edges.promise(10, "or another what.", PromiseMakingEdges::ofAnotherWhat);
        edges.promise(30, "What 0 TOOLS, 1 BARRELS, 2 BALLS, 3 LOOKERS, 4 PAIRS, 5 lines of LAWS,", PromiseMakingEdges::look);
        edges.promise(30, "6 BALLS that are FOUND.", PromiseMakingEdges::lookFound);
        edges.promise(30, "NONE for another what.", PromiseMakingEdges::lookAnotherWhat);
    }

    private static void noTools() {
        Trial t = new Trial();
        t.due(t.look(0), 0);
        t.due(t.at(0, 0, 0), -2);
        t.due(t.edge(0, 0, 0), false);
        t.due(t.barrel(0), Trial.NONE);
        for (int what = 1; what <= 6; what++) {
            t.due(t.look(what), 0);
        }
        // What another object has is none of its.
        Trial other = new Trial();
        other.tool(0);
        t.due(t.look(0), 0);
        t.due(t.tool(0), 0);
    }

    private static void tool() {
        Trial t = new Trial();
        int[] states = {Trial.MIN, -1, 0, 1, Trial.MAX, 0};
        for (int n = 0; n < 6; n++) {
            t.due(t.tool(states[n]), n);
            t.due(t.look(0), n + 1);
        }
    }

    private static void sixTools() {
        Trial t = new Trial();
        for (int n = 0; n < 6; n++) {
            t.tool(0);
        }
        t.edge(5, 0, 9);
        t.edge(0, 0, 8);
        for (int state : new int[] {0, 77, Trial.MIN}) {
            t.due(t.tool(state), Trial.NONE);
            t.due(t.look(0), 6);
        }
        t.due(t.at(0, 5, 0), 9);
        t.due(t.at(0, 0, 0), 8);
        t.due(t.at(0, 6, 0), -2);
        t.due(t.barrel(5), 0);
        t.due(t.barrel(6), Trial.NONE);
    }

    private static void edge() {
        Trial t = new Trial();
        t.tool(0);
        t.tool(0);
        int[][] told = {{0, 0, 0}, {0, 31, 63}, {1, 0, 63}, {1, 31, 0}};
        for (int[] n : told) {
            t.due(t.edge(n[0], n[1], n[2]), true);
            t.due(t.at(0, n[0], n[1]), n[2]);
            // It is so already: that is no reason to refuse it.
            t.due(t.edge(n[0], n[1], n[2]), true);
        }
        t.due(t.at(0, 0, 1), 32);
        t.due(t.at(0, 0, 30), 32);
        t.due(t.at(0, 0, 0), 0);
    }

    private static void edgeRefused() {
        Trial t = new Trial();
        t.tool(0);
        for (int tool : new int[] {1, 5, 6}) {
            t.due(t.edge(tool, 0, 1), false);
        }
        for (int never : NEVER) {
            t.due(t.edge(never, 0, 1), false);
            t.due(t.edge(0, never, 1), false);
            t.due(t.edge(0, 0, never), false);
        }
        t.due(t.edge(0, 32, 1), false);
        t.due(t.edge(0, 0, 64), false);
        for (int i = 0; i < 32; i++) {
            t.due(t.at(0, 0, i), 32);
        }
        t.due(t.edge(0, 31, 63), true);
    }

    private static void barrel() {
        Trial t = new Trial();
        for (int n = 0; n < 6; n++) {
            t.tool(0);
        }
        for (int n = 0; n < 16; n++) {
            t.due(t.barrel(5 - n % 6), n);
            t.due(t.look(1), n + 1);
        }
    }

    private static void barrelOfNoTool() {
        Trial t = new Trial();
        t.due(t.barrel(0), Trial.NONE);
        t.tool(3);
        t.laws("cut draw;");
        for (int never : NEVER) {
            t.due(t.barrel(never), Trial.NONE);
        }
        t.due(t.barrel(1), Trial.NONE);
        t.due(t.barrel(6), Trial.NONE);
        t.due(t.look(1), 0);
        t.due(t.at(0, 0, 0), 32);
        // No draw was made, nor a barrel counted.
        t.due(t.barrel(0), 0);
        t.due(t.of(0, 11), 0);
        Trial fresh = new Trial();
        fresh.tool(3);
        fresh.laws("cut draw;");
        fresh.barrel(0);
        for (int i = 0; i < 32; i++) {
            int want = fresh.at(0, 0, i);
            t.due(t.at(0, 0, i), want);
        }
    }

    private static void sixteenBarrels() {
        Trial t = new Trial();
        t.tool(0);
        t.tool(0);
        for (int n = 0; n < 16; n++) {
            t.barrel(0);
        }
        t.laws("cut high+1;");
        t.due(t.barrel(0), Trial.NONE);
        t.due(t.barrel(1), Trial.NONE);
        t.due(t.barrel(2), Trial.NONE);
        t.due(t.look(1), 16);
        t.due(t.at(0, 0, 0), 32);
        t.due(t.at(0, 1, 0), 32);
        t.due(t.of(16, 10), -2);
        t.due(t.of(15, 11), 15);
    }

    private static void rust() {
        Trial t = Trial.gun();
        t.barrel(0);
        t.due(t.rust(1, 99), true);
        t.due(t.rust(0, 0), true);
        t.due(t.rust(0, 0), true);
        t.due(t.of(0, 13), 0);
        t.due(t.of(1, 13), 99);
        t.due(t.rust(1, 7), true);
        t.due(t.of(1, 13), 7);
    }

    private static void rustRefused() {
        Trial t = new Trial();
        t.tool(0);
        t.due(t.rust(0, 5), false);
        t.barrel(0);
        t.rust(0, 42);
        for (int barrel : new int[] {-1, 1, 15, 16, Trial.MIN, Trial.MAX}) {
            t.due(t.rust(barrel, 5), false);
        }
        for (int v : new int[] {-1, 100, Trial.MIN, Trial.MAX}) {
            t.due(t.rust(0, v), false);
        }
        t.due(t.of(0, 13), 42);
    }

    private static void shot() {
        Trial t = Trial.gun();
        t.barrel(0);
        for (int n = 0; n < 40; n++) {
            t.due(t.shot(n % 2, n % 10), n);
            t.due(t.of(n, 0), n % 2);
        }
    }

    private static void shotRefused() {
        Trial t = new Trial();
        t.tool(8);
        t.due(t.shot(0, 0), Trial.NONE);
        t.barrel(0);
        t.laws("take draw; wear high+1;");
        for (int barrel : new int[] {-1, 1, 15, 16, Trial.MIN, Trial.MAX}) {
            t.due(t.shot(barrel, 0), Trial.NONE);
        }
        for (int soft : new int[] {-1, 10, Trial.MIN, Trial.MAX}) {
            t.due(t.shot(0, soft), Trial.NONE);
        }
        t.due(t.look(2), 0);
        t.due(t.of(0, 12), 0);
        t.due(t.at(1, 0, 0), 32);
        // No draw was made.
        t.due(t.shot(0, 9), 0);
        Trial fresh = new Trial();
        fresh.tool(8);
        fresh.barrel(0);
        fresh.laws("take draw; wear high+1;");
        fresh.shot(0, 9);
        for (int i = 0; i < 32; i++) {
            int want = fresh.at(2, 0, i);
            t.due(t.at(2, 0, i), want);
        }
    }

    private static void shotOfForty() {
        Trial t = Trial.gun();
        t.found();
        for (int n = 1; n < 40; n++) {
            t.due(t.shot(0, 0), n);
        }
        t.laws("take 1; wear high+1;");
        t.due(t.shot(0, 0), Trial.NONE);
        t.due(t.shot(0, 9), Trial.NONE);
        t.due(t.look(2), 40);
        t.due(t.of(0, 12), 39);
        t.due(t.at(1, 0, 0), 32);
        t.due(t.at(2, 39, 0), 32);
        t.due(t.of(40, 0), -2);
    }

    private static void found() {
        Trial t = Trial.gun();
        for (int n = 0; n < 40; n++) {
            t.due(n % 4 == 1 ? t.shot(0, 0) : t.found(), n);
            t.due(t.of(n, 0), n % 4 == 1 ? 0 : Trial.NONE);
        }
    }

    private static void foundOfForty() {
        Trial t = Trial.gun();
        for (int n = 0; n < 40; n++) {
            t.due(t.found(), n);
        }
        t.due(t.found(), Trial.NONE);
        t.due(t.look(2), 40);
        t.due(t.look(6), 40);
        t.due(t.at(2, 40, 0), -2);
        t.due(t.shot(0, 0), Trial.NONE);
        Trial shots = Trial.gun();
        for (int n = 0; n < 40; n++) {
            shots.shot(0, 0);
        }
        shots.due(shots.found(), Trial.NONE);
        shots.due(shots.look(6), 0);
    }

    private static void hair() {
        Trial t = Trial.gun();
        t.looker(0);
        t.shot(0, 0);
        t.found();
        for (int ball = 0; ball < 2; ball++) {
            for (int i : new int[] {0, 31}) {
                for (int v : new int[] {0, 63, Trial.NONE, Trial.NONE}) {
                    t.due(t.hair(ball, i, v), true);
                    t.due(t.at(2, ball, i), v);
                }
            }
            t.due(t.of(ball, 3), 2);
        }
        t.due(t.at(2, 0, 1), 32);
        t.due(t.at(2, 0, 30), 32);
        // What was asked ahead of it is asked anew.
        t.judgement(0, "same lack=4 and best=30 and longest=30 and pieces=30; not 1=1;");
        t.due(t.slid(0, 1, 1, 0), 30);
        t.due(t.says(0, 1, 1, false), 1);
        t.due(t.hair(1, 31, 0), true);
        t.due(t.slid(0, 1, 1, 0), 31);
        t.due(t.slid(0, 1, 1, 2), 31);
        t.due(t.slid(0, 1, 1, 3), 31);
        t.due(t.says(0, 1, 1, false), 0);
        t.found();
        t.due(t.slid(0, 1, 2, 0), 31);
        t.due(t.slid(0, 2, 1, 0), 31);
        t.due(t.hair(1, 5, Trial.NONE), true);
        t.due(t.slid(0, 1, 2, 0), 30);
        t.due(t.slid(0, 2, 1, 0), 30);
    }

    private static void hairRefused() {
        Trial t = Trial.gun();
        t.due(t.hair(0, 0, 0), false);
        t.shot(0, 0);
        for (int ball : new int[] {-1, 1, 39, 40, Trial.MIN, Trial.MAX}) {
            t.due(t.hair(ball, 0, 1), false);
        }
        for (int i : new int[] {-1, 32, Trial.MIN, Trial.MAX}) {
            t.due(t.hair(0, i, 1), false);
        }
        for (int v : new int[] {-2, 64, Trial.MIN, Trial.MAX}) {
            t.due(t.hair(0, 0, v), false);
        }
        for (int i = 0; i < 32; i++) {
            t.due(t.at(2, 0, i), 32);
        }
    }

    private static void at() {
        Trial t = new Trial();
        for (int n = 0; n < 6; n++) {
            t.tool(0);
            t.edge(n, 31, n);
        }
        for (int n = 0; n < 16; n++) {
            t.edge(0, 0, 10 + n);
            t.barrel(0);
        }
        for (int n = 0; n < 40; n++) {
            t.shot(n % 16, 0);
            t.hair(n, 31, n);
        }
        t.due(t.at(0, 0, 0), 25);
        t.due(t.at(0, 5, 31), 5);
        t.due(t.at(1, 0, 0), 10);
        t.due(t.at(1, 15, 0), 25);
        t.due(t.at(1, 15, 31), 0);
        t.due(t.at(2, 0, 0), 10);
        t.due(t.at(2, 39, 0), 17);
        t.due(t.at(2, 39, 31), 39);
    }

    private static void atMissing() {
        Trial t = Trial.gun();
        t.shot(0, 0);
        t.hair(0, 0, Trial.NONE);
        t.due(t.at(2, 0, 0), Trial.NONE);
        t.due(t.at(2, 0, 1), 32);
        t.due(t.at(1, 0, 0), 32);
        t.lack(0, 32);
        for (int i = 0; i < 32; i++) {
            t.due(t.at(2, 0, i), Trial.NONE);
        }
        t.due(t.at(2, 0, 32), -2);
    }

    private static void atNoneSuch() {
        Trial t = new Trial();
        for (int what = 0; what < 3; what++) {
            t.due(t.at(what, 0, 0), -2);
        }
        t.tool(0);
        t.due(t.at(1, 0, 0), -2);
        t.barrel(0);
        t.due(t.at(2, 0, 0), -2);
        t.found();
        for (int what = 0; what < 3; what++) {
            for (int which : new int[] {-1, 1, 5, 6, 15, 16, 39, 40, Trial.MIN, Trial.MAX}) {
                t.due(t.at(what, which, 0), -2);
            }
            for (int i : new int[] {-1, 32, Trial.MIN, Trial.MAX}) {
                t.due(t.at(what, 0, i), -2);
            }
        }
    }

    private static void atAnotherWhat() {
        Trial t = Trial.gun();
        t.found();
        for (int what : new int[] {-1, 3, 10, Trial.MIN, Trial.MAX}) {
            t.due(t.at(what, 0, 0), -2);
        }
    }

    private static void ballsBarrel() {
        Trial t = new Trial();
        t.tool(0);
        for (int n = 0; n < 16; n++) {
            t.barrel(0);
        }
        t.shot(15, 0);
        t.found();
        t.shot(0, 0);
        t.due(t.of(0, 0), 15);
        t.due(t.of(1, 0), Trial.NONE);
        t.due(t.of(2, 0), 0);
    }

    private static void ballsShot() {
        Trial t = Trial.gun();
        t.barrel(0);
        int[] guns = {0, 1, 0, -1, 0, 1};
        int[] numbers = {0, 0, 1, Trial.NONE, 2, 1};
        for (int n = 0; n < 6; n++) {
            t.due(guns[n] < 0 ? t.found() : t.shot(guns[n], 0), n);
        }
        for (int n = 0; n < 6; n++) {
            t.due(t.of(n, 1), numbers[n]);
        }
        while (t.look(2) < 40) {
            t.shot(1, 0);
        }
        t.due(t.of(39, 1), 35);
    }

    private static void ballsSoft() {
        Trial t = Trial.gun();
        t.shot(0, 9);
        t.shot(0, 0);
        t.found();
        t.due(t.of(0, 2), 9);
        t.due(t.of(1, 2), 0);
        t.due(t.of(2, 2), Trial.NONE);
    }

    private static void ballsMissing() {
        Trial t = Trial.gun();
        t.shot(0, 0);
        t.found();
        for (int ball = 0; ball < 2; ball++) {
            t.due(t.of(ball, 3), 0);
            for (int i = 0; i < 32; i++) {
                t.hair(ball, i, Trial.NONE);
                t.due(t.of(ball, 3), i + 1);
            }
            t.hair(ball, 31, 0);
            t.due(t.of(ball, 3), 31);
        }
    }

    private static void barrelsTool() {
        Trial t = new Trial();
        for (int n = 0; n < 6; n++) {
            t.tool(0);
        }
        for (int n = 0; n < 16; n++) {
            t.barrel((n + 5) % 6);
        }
        for (int n = 0; n < 16; n++) {
            t.due(t.of(n, 10), (n + 5) % 6);
        }
    }

    private static void barrelsPlace() {
        Trial t = new Trial();
        t.tool(0);
        t.tool(0);
        int[] tools = {1, 0, 1, 1, 0};
        int[] places = {0, 0, 1, 2, 1};
        for (int tool : tools) {
            t.barrel(tool);
        }
        for (int n = 0; n < 5; n++) {
            t.due(t.of(n, 11), places[n]);
        }
        for (int n = 5; n < 16; n++) {
            t.barrel(1);
        }
        t.due(t.of(15, 11), 13);
    }

    private static void barrelsShotsAndRust() {
        Trial t = Trial.gun();
        t.barrel(0);
        t.due(t.of(0, 12), 0);
        t.due(t.of(0, 13), 0);
        t.rust(1, 99);
        for (int n = 1; n <= 40; n++) {
            t.shot(1, 0);
            t.due(t.of(1, 12), n);
        }
        t.due(t.of(1, 13), 99);
        t.due(t.of(0, 12), 0);
        t.due(t.of(0, 13), 0);
    }

    private static void ofNoneSuch() {
        Trial t = new Trial();
        int[] whats = {0, 1, 2, 3, 10, 11, 12, 13};
        for (int what : whats) {
            t.due(t.of(0, what), -2);
        }
        t.tool(0);
        t.barrel(0);
        // There is a barrel 0, but no ball 0; then two balls, but no barrel 1.
        t.due(t.of(0, 0), -2);
        t.due(t.of(0, 10), 0);
        t.found();
        t.found();
        t.due(t.of(1, 0), Trial.NONE);
        t.due(t.of(1, 10), -2);
        for (int what : whats) {
            for (int which : new int[] {-1, 2, 15, 16, 39, 40, Trial.MIN, Trial.MAX}) {
                t.due(t.of(which, what), -2);
            }
        }
    }

    private static void ofAnotherWhat() {
        Trial t = Trial.gun();
        t.shot(0, 0);
        for (int what : new int[] {Trial.MIN, -1, 4, 5, 6, 7, 8, 9, 14, 15, 20, Trial.MAX}) {
            t.due(t.of(0, what), -2);
        }
    }

    private static void look() {
        Trial t = new Trial();
        int[] most = {6, 16, 40, 6, 10};
        for (int what = 0; what < 5; what++) {
            for (int n = 0; n < most[what]; n++) {
                t.due(t.look(what), n);
                make(t, what);
            }
            t.due(t.look(what), most[what]);
            make(t, what);
            t.due(t.look(what), most[what]);
        }
        t.due(t.look(5), 0);
        t.laws("cut 1;".repeat(16));
        t.due(t.look(5), 16);
        t.laws("cut 1;");
        t.due(t.look(5), 1);
        t.laws("cut 1; cut");
        t.due(t.look(5), 1);
        t.laws("");
        t.due(t.look(5), 0);
    }

    private static void make(Trial t, int what) {
        switch (what) {
            case 0 -> t.tool(0);
            case 1 -> t.barrel(0);
            case 2 -> t.shot(0, 0);
            case 3 -> t.looker(0);
            default -> t.pair(0, 1, 1);
        }
    }

    private static void lookFound() {
        Trial t = Trial.gun();
        t.due(t.look(6), 0);
        t.shot(0, 0);
        t.due(t.look(6), 0);
        for (int n = 1; n < 40; n++) {
            t.found();
            t.due(t.look(6), n);
        }
        t.found();
        t.due(t.look(6), 39);
        t.due(t.look(2), 40);
    }

    private static void lookAnotherWhat() {
        Trial t = Trial.gun();
        t.found();
        for (int what : new int[] {Trial.MIN, -1, 7, 8, 10, Trial.MAX}) {
            t.due(t.look(what), Trial.NONE);
        }
    }
}
