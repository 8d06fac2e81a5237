/** Terms 2: FLOWS, the TREE, to BEGIN, PRICES, OFFERS, a PIVOT; with promises 5 to 7. */
final class BoundaryTree extends Boundary {
    @Override
    void run() {
        flowsAndTree();
        conservation();
        begin();
        cold();
        warm();
        warmBoundNow();
        prices();
        reduced();
        offers();
        rules();
        roundWrap();
        steepFull();
        direction();
        join();
        room();
        leaves();
        leavesItself();
        leavesOut();
        unmet();
        pivot();
        pivots();
        rule();
    }

    /** A grid in which arc 0 carries much of its bound; arc 1 carries nothing and can be blocked to BEGIN WARM. */
    private static TreeFlows carrying(int much, int bound) {
        return best("supply 0 " + much + ";want 1 " + much + ";arc 0 1 " + bound + " 1;arc 1 0 5 99;");
    }

    private void flowsAndTree() {
        sentence("Each ARC has a FLOW, from 0 to its BOUND. The TREE: ARCS and LOANS, as many as there are POINTS, by which all POINTS hang together with the ROOT. An ARC that is not in the TREE is EMPTY (its FLOW is 0) or FULL (it is its BOUND); one that is BLOCKED is EMPTY; a LOAN that is not in the TREE has FLOW 0.");
        TreeFlows x = laid("points 7;supply 0 20;want 6 20;arc 0 1 9 1;arc 0 2 9 1;arc 1 3 5 1;arc 2 3 5 1;arc 3 4 9 1;"
            + "arc 4 5 9 1;arc 5 6 9 1;arc 0 6 0 1;arc 1 6 9 50;gain 3 2 9 9;arc 0 6 9 1;block 10;");
        for (int i = 0; i < 40 && x.grid(3) == 0; i++) {
            x.pivot();
            dueTree(x);
        }
        x.block(10, true);
        dueTree(x);
        x.pivots(60);
        dueTree(x);
        x.block(0, false);
        dueTree(x);
        due("FLOW of one that is BLOCKED", arcOf(x, 0, 4), 0);
        x.pivots(60);
        dueTree(x);
    }

    private static void dueTree(TreeFlows x) {
        int points = x.grid(0);
        int inTree = 0;
        for (int a = 0; a < x.grid(1); a++) {
            int state = x.arc(a, 5);
            int flow = x.arc(a, 4);
            inTree += state == 2 ? 1 : 0;
            yes("FLOW from 0 to the BOUND", flow >= 0 && flow <= x.arc(a, 2));
            yes("EMPTY or FULL", state == 2 || flow == (state == 1 ? x.arc(a, 2) : 0));
        }
        for (int p = 0; p < points; p++) {
            boolean loanInTree = x.point(p, 3) == 100 + p;
            inTree += loanInTree ? 1 : 0;
            yes("a LOAN out of the TREE has FLOW 0", loanInTree || x.point(p, 6) == 0);
            int at = p;
            for (int i = 0; i < x.point(p, 4); i++) {
                at = x.point(at, 2);
            }
            due("the way from " + p + " ends at the ROOT", at, points);
        }
        due("as many as POINTS", inTree, points);
    }

    private void conservation() {
        sentence("At each POINT what flows out, less what flows in, is its SUPPLY (LOANS counted).");
        TreeFlows x = laid(THREE);
        x.rule(1);
        for (int i = 0; i < 5; i++) {
            dueKept(x);
            x.pivot();
        }
        x.shift(0, 1, 93);
        dueKept(x);
        x.block(2, false);
        dueKept(x);
        x.widen(0, 1);
        dueKept(x);
        x.cold();
        dueKept(x);
    }

    private static void dueKept(TreeFlows x) {
        for (int p = 0; p < x.grid(0); p++) {
            int out = x.point(p, 6);
            for (int a = 0; a < x.grid(1); a++) {
                out += x.arc(a, 0) == p ? x.arc(a, 4) : 0;
                out -= x.arc(a, 1) == p ? x.arc(a, 4) : 0;
            }
            due("out less in at " + p, out, x.point(p, 0));
        }
    }

    // ---- to begin

    private void begin() {
        sentence("To BEGIN: some ARCS are FULL, the others EMPTY, the TREE is all LOANS; each goes from its POINT to the ROOT, if SUPPLY and what flows in, less what flows out by ARCS, is 0 or more, else from the ROOT to its POINT; that, without its sign, is its FLOW.");
        TreeFlows x = laid("points 3;supply 0 1;want 2 1;");
        dueLoans(x, 1, 0, -1);
        duePrices(x, -10000, -10000, 10000);
        due("one goes down a loan of 0 against it", x.path(0, 1, 1), 0);
        due("one goes up a loan of 0 along it", x.path(1, 0, 1), 1);
        x = best(THREE);
        due("shift", x.shift(0, 2, 1) ? 1 : 0, 1);
        // Flows 5, 4, 3: of 0 7 less 8, of 1 5 less 4, of 2 7 less 7.
        dueFlows(x, 5, 4, 3);
        dueStates(x, 1, 1, 1);
        dueLoans(x, -1, 1, 0);
        duePrices(x, 10000, -10000, -10000);
        for (int p = 0; p < 3; p++) {
            due("the TREE is all LOANS", pointOf(x, p, 3), 100 + p);
            due("the TREE is all LOANS", pointOf(x, p, 2), 3);
        }
    }

    private void cold() {
        sentence("COLD: no ARC is FULL.");
        TreeFlows x = best(PAIR);
        dueStates(x, 1, 2);
        x.cold();
        dueStates(x, 0, 0);
        dueFlows(x, 0, 0);
        dueLoans(x, 5, -5);
    }

    private void warm() {
        sentence("WARM: of ARCS that are not BLOCKED and have a BOUND above 0 those are FULL of which twice the FLOW that there was is the BOUND there is now or more.");
        int[][] muchBoundFull = {{5, 10, 1}, {5, 11, 0}, {5, 9, 1}, {1, 1, 1}, {1, 2, 1}, {1, 3, 0}, {0, 1, 0}, {0, 0, 0},
            {49, 99, 0}, {50, 99, 1}, {49, 98, 1}, {99, 99, 1}};
        for (int[] m : muchBoundFull) {
            TreeFlows x = carrying(m[0], m[1]);
            due("the flow that there was", arcOf(x, 0, 4), m[0]);
            yes("block(1,false)", x.block(1, false));
            String told = m[0] + " of " + m[1];
            due("state of " + told, arcOf(x, 0, 5), m[2]);
            due("flow of " + told, arcOf(x, 0, 4), m[2] * m[1]);
            dueLoans(x, m[0] - m[2] * m[1], m[2] * m[1] - m[0]);
        }
        TreeFlows x = carrying(9, 9);
        yes("block of a full one", x.block(0, false));
        dueStates(x, 3, 0);
        dueFlows(x, 0, 0);
        yes("open: there was no flow", x.block(0, true));
        dueStates(x, 0, 0);
    }

    private void warmBoundNow() {
        sentence("those are FULL of which twice the FLOW that there was is the BOUND there is now or more.");
        int[][] boundFull = {{8, 1}, {9, 0}, {7, 1}, {4, 1}, {3, 1}, {1, 1}, {0, 0}, {99, 0}};
        for (int[] b : boundFull) {
            TreeFlows x = carrying(4, 10);
            yes("widen(0," + b[0] + ")", x.widen(0, b[0]));
            due("state at " + b[0], arcOf(x, 0, 5), b[1]);
            due("flow at " + b[0], arcOf(x, 0, 4), b[1] * b[0]);
        }
        TreeFlows x = carrying(0, 0);
        yes("widen(0,1)", x.widen(0, 1));
        dueStates(x, 0, 0);
    }

    // ---- prices and offers

    private void prices() {
        sentence("PRICES: of the ROOT 0; along an ARC or LOAN of the TREE from one to another one that other one's PRICE is the first one's and the COST.");
        TreeFlows x = laid(THREE);
        duePrices(x, -10000, -10000, 10000);
        x.pivot();
        // 1 hangs by arc 1, which goes from 1 to 2: 10000 less 3.
        duePrices(x, -10000, 9997, 10000);
        x.pivots(60);
        duePrices(x, -10000, -9998, -9991);
        x.charge(2, -99);
        duePrices(x, -10000, -9998, -10099);
    }

    private void reduced() {
        sentence("REDUCED of an ARC: its COST and the PRICE of where it comes from, less the PRICE of where it goes to.");
        TreeFlows x = laid(THREE);
        due("arc(0,6)", arcOf(x, 0, 6), 2);
        due("arc(1,6)", arcOf(x, 1, 6), 3 - 20000);
        x.pivots(60);
        due("arc(0,6) in the TREE", arcOf(x, 0, 6), 0);
        due("arc(1,6)", arcOf(x, 1, 6), 3 - 9998 + 9991);
        x.block(1, false);
        // Warm: arcs 0 and 2 are FULL, 5 and 3: loans of 0 -2, of 1 5, of 2 -3.
        due("arc(1,6) of a BLOCKED one", arcOf(x, 1, 6), 3 - 10000 - 10000);
    }

    private void offers() {
        sentence("It OFFERS, if it is not in the TREE, not BLOCKED, its BOUND is above 0, and it is EMPTY and REDUCED is below 0, or FULL and REDUCED is above 0. LOANS never OFFER.");
        TreeFlows x = laid("arc 0 1 5 0;gain 0 1 5 1;arc 0 1 5 1;gain 0 1 0 1;gain 0 1 1 1;gain 0 1 5 1;block 5;");
        dueRow("arc(a,7)", new int[] {0, 1, 0, 0, 1, 0}, a -> x.arc(a, 7));
        due("grid(9)", x.grid(9), 2);
        TreeFlows y = best(PAIR);
        due("FULL and -3", arcOf(y, 0, 6), -3);
        due("FULL and -3 offers", arcOf(y, 0, 7), 0);
        y.charge(0, 4);
        due("FULL and 0", arcOf(y, 0, 6), 0);
        due("FULL and 0 offers", arcOf(y, 0, 7), 0);
        due("grid(3)", y.grid(3), 1);
        y.charge(0, 5);
        due("FULL and 1", arcOf(y, 0, 6), 1);
        due("FULL and 1 offers", arcOf(y, 0, 7), 1);
        due("grid(3)", y.grid(3), 0);
        y.charge(1, -99);
        due("in the TREE", arcOf(y, 1, 7), 0);
        // The loan of 1 is out of the TREE with flow 0, and the way there by arcs costs more than none.
        TreeFlows z = best("supply 0 5;want 1 5;arc 0 1 9 99;");
        due("the LOAN is out", pointOf(z, 1, 3), 0);
        due("none OFFERS", z.grid(9), 0);
        due("pivot()", z.pivot(), -1);
    }

    // ---- a pivot

    private void rules() {
        sentence("A PIVOT: an ARC that OFFERS ENTERS: by the RULE: first: the one of the least number; steep: of which REDUCED is farthest from 0, of several the least;");
        String grid = "supply 0 9;want 1 9;arc 1 0 9 0;arc 0 1 2 5;arc 0 1 2 3;arc 0 1 2 3;arc 0 1 2 4;";
        due("first", laid(grid).pivot(), 1);
        TreeFlows x = laid(grid + "steep;");
        due("steep", x.pivot(), 2);
        due("steep of several the least", laid(grid + "steep;block 2;").pivot(), 3);
        due("steep, next", x.pivot(), 3);
        due("steep, next", x.pivot(), 4);
        due("steep, next", x.pivot(), 1);
        due("none", x.pivot(), -1);
        TreeFlows y = laid(grid);
        dueRow("first", new int[] {1, 2, 3, 4, -1}, k -> y.pivot());
        String near = "gain 0 1 5 1;gain 0 1 5 9;";
        due("first, though it is but 1 from 0", laid(near).next(0), 0);
        due("round, though it is but 1 from 0", laid(near + "round;").next(0), 0);
        due("steep", laid(near + "steep;").next(0), 1);
        due("steep of 1", laid("arc 0 1 5 0;gain 0 1 5 1;steep;").next(0), 1);
    }

    private void roundWrap() {
        sentence("round: the first from the one behind that which ENTERED last on (0 at first; behind the last ARC comes 0).");
        String three = "supply 0 9;want 1 9;arc 0 1 1 3;arc 0 1 1 2;arc 0 1 1 1;round;";
        TreeFlows x = laid(three);
        due("0 at first", x.pivot(), 0);
        x.cold();
        due("behind 0", x.pivot(), 1);
        x.cold();
        due("behind 1", x.pivot(), 2);
        x.cold();
        due("behind the last", x.pivot(), 0);
        x = laid(three + "block 0;block 2;");
        due("the only one", x.pivot(), 1);
        x.cold();
        due("the only one once more, all round", x.pivot(), 1);
        x = laid("supply 0 9;want 1 9;arc 0 1 1 3;round;");
        due("one arc", x.pivot(), 0);
        x.cold();
        due("one arc again", x.pivot(), 0);
        x = laid(three);
        x.rule(1);
        due("by steep", x.pivot(), 2);
        x.rule(2);
        due("round behind one that entered by steep", x.next(0), 0);
        x.rule(0);
        x.pivot();
        x.cold();
        x.rule(2);
        due("round behind one that entered by first", x.next(0), 1);
        Texts.spell(x, three);
        x.lay();
        due("0 at first again", x.next(0), 0);
        // Nine arcs carry all; then 0 and 1, which cost more than what is left, give way to 9 and 10.
        TreeFlows y = laid(three + "arc 0 1 1 1;".repeat(11));
        dueRow("round", new int[] {0, 1, 2, 3, 4, 5, 6, 7, 8, 0, 9, 1, 10, -1}, k -> y.pivot());
    }

    private void steepFull() {
        sentence("steep: of which REDUCED is farthest from 0, of several the least;");
        TreeFlows x = best(PAIR + "arc 0 1 2 4;");
        dueStates(x, 1, 2, 0);
        x.charge(0, 9);
        x.charge(2, 1);
        x.rule(1);
        due("FULL at 5", arcOf(x, 0, 6), 5);
        due("EMPTY at -3", arcOf(x, 2, 6), -3);
        due("the FULL one is farther", x.next(0), 0);
        x.charge(2, -1);
        due("as far: the least", x.next(0), 0);
        x.charge(2, -2);
        due("the EMPTY one is farther", x.next(0), 2);
        x.rule(0);
        due("first", x.next(0), 0);
        x.rule(2);
        due("round, behind 1", x.next(0), 2);
    }

    private void direction() {
        sentence("If it is EMPTY, one goes along it from a, where it comes from, to b; if it is FULL, backwards, from a, where it goes to, to b.");
        TreeFlows x = laid(PAIR);
        dueRow("the CYCLE of an EMPTY one", new int[] {100, 0, 101, -1}, k -> x.next(10 + k));
        due("pivot()", x.pivot(), 0);
        dueFlows(x, 3, 0);
        TreeFlows y = best(THREE);
        y.charge(1, 60);
        // Arc 1 goes from 1 to 2 and is FULL: from the JOIN 0 down to 2, to 1, up to 0.
        dueRow("the CYCLE of a FULL one", new int[] {2, 1, 0, -1}, k -> y.next(10 + k));
        due("pivot()", y.pivot(), 1);
        dueFlows(y, 3, 3, 3);
    }

    private void join() {
        sentence("JOIN: the first that is on both ways in the TREE, that from a and that from b to the ROOT (each begins with itself). The CYCLE: from the JOIN down to a, along the one that ENTERS, from b up to the JOIN.");
        TreeFlows x = laid(THREE);
        due("the ROOT", x.next(3), 3);
        due("of the CYCLE", x.next(4), 3);
        TreeFlows two = laid(PAIR);
        due("the ROOT of two", two.next(3), 2);
        TreeFlows a = laid("supply 0 5;want 1 5;arc 0 1 9 4;arc 0 1 3 1;");
        a.pivot();
        // 1 hangs by arc 0 by 0: a is 0, on the way from b, 1.
        dueRow("a itself", new int[] {1, 1, 3, 0, 2}, a::next);
        dueRow("a itself", new int[] {1, 0, -1}, k -> a.next(10 + k));
        TreeFlows b = laid("points 3;supply 0 5;supply 2 4;want 1 9;arc 0 1 9 1;gain 1 0 3 9;");
        b.pivot();
        // 0 hangs by arc 0 by 1: arc 1 goes from 1 to 0, a is 1 again.
        due("0 hangs by 1", pointOf(b, 0, 2), 1);
        dueRow("a itself, along both", new int[] {1, 1, 3, 1, 2}, b::next);
        TreeFlows c = best(PAIR);
        c.charge(0, 5);
        // Arc 0 is FULL: a is 1, b is 0; 1 hangs by arc 1 by 0.
        dueRow("b itself", new int[] {0, 0, 3, 0, 2}, c::next);
        dueRow("b itself", new int[] {1, 0, -1}, k -> c.next(10 + k));
        TreeFlows d = best(THREE);
        d.charge(1, 60);
        dueRow("a third one", new int[] {1, 2, 1, 0, 3}, d::next);
    }

    private void room() {
        sentence("Whatever one goes along as it goes itself has room for its BOUND less its FLOW, whatever one goes along backwards for its FLOW. DELTA is the least room; by so much FLOWS along the CYCLE grow, or (backwards) shrink.");
        TreeFlows x = laid(THREE);
        due("DELTA 0: the LOAN of 1 has no FLOW", x.next(2), 0);
        due("pivot()", x.pivot(), 1);
        dueFlows(x, 0, 0, 0);
        dueLoans(x, 6, 0, -6);
        due("DELTA by the BOUND of arc 1", x.next(2), 4);
        due("pivot()", x.pivot(), 0);
        dueFlows(x, 4, 4, 0);
        dueLoans(x, 2, 0, -2);
        TreeFlows y = best(PAIR);
        y.charge(0, 5);
        due("DELTA by the FLOW of the FULL one", y.next(2), 3);
        due("pivot()", y.pivot(), 0);
        dueFlows(y, 0, 5);
        TreeFlows z = laid("points 3;supply 0 2;supply 2 7;want 1 9;arc 0 1 9 1;");
        due("DELTA by the FLOW of a LOAN", z.next(2), 2);
    }

    private void leaves() {
        sentence("LEAVES: of those that had just that room the last one of the CYCLE.");
        TreeFlows x = laid("supply 0 5;want 1 5;arc 0 1 5 1;");
        due("all three have room for 5: the last", x.next(1), 101);
        due("pivot()", x.pivot(), 0);
        due("in the TREE, with its BOUND as FLOW", arcOf(x, 0, 5), 2);
        due("arc(0,4)", arcOf(x, 0, 4), 5);
        x = laid("points 3;supply 0 5;supply 2 4;want 1 9;arc 0 1 5 1;");
        due("the LOAN of 0 and the arc: the arc", x.next(1), 0);
        x = laid("points 3;supply 0 5;supply 2 4;want 1 9;arc 0 1 9 1;");
        due("the LOAN of 0 alone", x.next(1), 100);
        due("pivot()", x.pivot(), 0);
        due("point(0,2)", pointOf(x, 0, 2), 1);
        due("point(0,3)", pointOf(x, 0, 3), 0);
        due("point(0,4)", pointOf(x, 0, 4), 2);
        x = laid("points 3;supply 0 9;want 2 4;want 1 5;arc 0 1 5 1;");
        due("the arc and the LOAN of 1: the LOAN", x.next(1), 101);
        x = laid("supply 0 5;want 1 5;arc 0 1 9 4;arc 0 1 5 1;");
        x.pivot();
        due("the one that ENTERS and one behind it", x.next(1), 0);
        due("pivot()", x.pivot(), 1);
        dueStates(x, 0, 2);
        dueFlows(x, 0, 5);
    }

    private void leavesItself() {
        sentence("If that is the one that ENTERS, it is FULL if it was EMPTY, EMPTY if it was FULL, and the TREE stays.");
        TreeFlows x = laid(PAIR);
        due("pivot()", x.pivot(), 0);
        due("LEFT", x.past(0, 1), 0);
        dueStates(x, 1, 0);
        dueLoans(x, 2, -2);
        due("point(0,3)", pointOf(x, 0, 3), 100);
        due("point(1,3)", pointOf(x, 1, 3), 101);
        duePrices(x, -10000, 10000);
        x.pivots(60);
        x.charge(0, 5);
        due("pivot()", x.pivot(), 0);
        due("LEFT", x.past(0, 1), 0);
        dueStates(x, 0, 2);
        dueFlows(x, 0, 5);
        due("point(1,3)", pointOf(x, 1, 3), 1);
        duePrices(x, -10000, -9996);
    }

    private void leavesOut() {
        sentence("Else it comes into the TREE; the one that LEAVES goes out of it: EMPTY, if its FLOW is 0, else FULL.");
        TreeFlows x = laid(THREE);
        x.pivots(2);
        due("LEFT with its BOUND", x.past(0, 1), 1);
        dueStates(x, 2, 1, 0);
        TreeFlows y = laid("supply 0 5;want 1 5;arc 0 1 9 4;arc 0 1 8 1;");
        y.pivots(2);
        due("LEFT with 0", y.past(0, 1), 0);
        dueStates(y, 0, 2);
        due("a LOAN that LEFT", y.past(1, 1), 101);
        dueLoans(y, 0, 0);
        due("point(1,3)", pointOf(y, 1, 3), 1);
        duePrices(y, -10000, -9999);
    }

    private void unmet() {
        sentence("UNMET: FLOWS of all LOANS together. It is BEST, if none OFFERS.");
        TreeFlows x = laid(THREE);
        due("grid(4)", x.grid(4), 12);
        due("grid(3)", x.grid(3), 0);
        x.pivots(2);
        due("grid(4)", x.grid(4), 4);
        due("grid(3)", x.grid(3), 0);
        x.pivot();
        due("grid(4)", x.grid(4), 0);
        due("grid(3)", x.grid(3), 1);
        x = laid("supply 0 99;want 1 99;");
        due("BEST with all of it UNMET", x.grid(3), 1);
        due("grid(4)", x.grid(4), 198);
        x = best("supply 0 9;want 1 9;arc 0 1 3 1;");
        due("BEST with some of it UNMET", x.grid(4), 12);
    }

    // ---- promises

    private void pivot() {
        sentence("A PIVOT: the ARC that ENTERED. NONE: none OFFERS.");
        TreeFlows x = laid(THREE);
        dueRow("pivot()", new int[] {1, 0, 2, -1, -1}, k -> x.pivot());
        due("grid(5)", x.grid(5), 3);
        due("grid(11)", x.grid(11), 3);
        due("of no arcs", laid("supply 0 1;want 1 1;").pivot(), -1);
        due("of one without a BOUND", laid("supply 0 1;want 1 1;arc 0 1 0 0;").pivot(), -1);
        due("of a BLOCKED one", laid("supply 0 1;want 1 1;arc 0 1 9 0;block 0;").pivot(), -1);
        due("of the 14th", laid("supply 0 1;want 1 1;" + "arc 1 0 1 1;".repeat(13) + "arc 0 1 1 1;").pivot(), 13);
    }

    private void pivots() {
        sentence("PIVOTS till it is BEST, n at most, 1 to 60: how many. NONE: another n.");
        TreeFlows x = laid(THREE);
        for (int n : new int[] {0, -1, 61, 100, Integer.MAX_VALUE, Integer.MIN_VALUE}) {
            due("pivots(" + n + ")", x.pivots(n), -1);
        }
        due("grid(5)", x.grid(5), 0);
        due("grid(11)", x.grid(11), 0);
        due("pivots(1)", x.pivots(1), 1);
        due("pivots(60)", x.pivots(60), 2);
        due("pivots(60) at the best", x.pivots(60), 0);
        due("pivots(1) at the best", x.pivots(1), 0);
        due("grid(11)", x.grid(11), 2);
        x = laid(THREE);
        due("pivots(3), just so many", x.pivots(3), 3);
        due("grid(3)", x.grid(3), 1);
        x = laid(THREE);
        due("pivots(2), one too few", x.pivots(2), 2);
        due("grid(3)", x.grid(3), 0);
    }

    private void rule() {
        sentence("The RULE is 0 first, 1 steep, 2 round: true. false: another one.");
        TreeFlows x = laid(THREE);
        for (int r = 0; r <= 2; r++) {
            yes("rule(" + r + ")", x.rule(r));
            due("grid(2)", x.grid(2), r);
            yes("rule(" + r + ") again", x.rule(r));
        }
        for (int r : new int[] {-1, 3, 4, Integer.MAX_VALUE, Integer.MIN_VALUE}) {
            no("rule(" + r + ")", x.rule(r));
        }
        due("grid(2)", x.grid(2), 2);
        due("grid(11)", x.grid(11), 6);
    }
}
