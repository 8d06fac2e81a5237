/** What is best, and what is kept: promises 27 to 35, and the sentences of terms 3 on PLANS, LACK, CUT, SPAN. */
final class BoundaryBest extends Boundary {
    private static final int[] FAR = {Integer.MIN_VALUE, -100000, -2, -1, 100000, Integer.MAX_VALUE};
    private static final int NO_PLAN = -1000000;

    @Override
    void run() {
        plan();
        leastOfPlans();
        lackOfPlans();
        cutOfSets();
        spanTerms();
        span();
        least();
        lack();
        cut();
        steps();
        worth();
        worthNone();
        toll();
        image();
        again();
        constants();
        calls();
    }

    // ---- terms 3

    private void plan() {
        sentence("A PLAN: whole numbers for all ARCS, from 0 to their BOUNDS, 0 for those that are BLOCKED, so that at each POINT what goes out, less what comes in, is its SUPPLY.");
        due("just by the BOUND", laid("supply 0 5;want 1 5;arc 0 1 5 1;").least(), 5);
        due("one beyond the BOUND", laid("supply 0 6;want 1 6;arc 0 1 5 1;").least(), NO_PLAN);
        due("BLOCKED", laid("supply 0 5;want 1 5;arc 0 1 5 1;block 0;").least(), NO_PLAN);
        due("BLOCKED, but nothing wanted", laid("arc 0 1 5 1;block 0;").least(), 0);
        due("the wrong way", laid("supply 0 5;want 1 5;arc 1 0 5 1;").least(), NO_PLAN);
        due("a BOUND of 0", laid("supply 0 1;want 1 1;arc 0 1 0 1;").least(), NO_PLAN);
        due("of no ARCS", laid("points 7;").least(), 0);
        due("of no ARCS, something wanted", laid("points 7;supply 0 1;want 6 1;").least(), NO_PLAN);
        due("apart from one another", laid("points 4;supply 0 1;want 1 1;supply 2 1;want 3 1;arc 0 3 1 1;arc 2 1 1 1;").least(), 2);
        due("one part without", laid("points 4;supply 0 1;want 1 1;supply 2 1;want 3 1;arc 0 1 9 1;").least(), NO_PLAN);
    }

    private void leastOfPlans() {
        sentence("LEAST: the least cost of any PLAN (each ARC's number by its COST, added up).");
        due("THREE", laid(THREE).least(), 38);
        due("a ring that brings something", laid(RING).least(), -99 * 99 * 7);
        due("the most that there can be", laid("supply 0 99;want 1 99;arc 0 1 99 99;").least(), 9801);
        due("seven in a row", laid("points 7;supply 0 99;want 6 99;arc 0 1 99 99;arc 1 2 99 99;arc 2 3 99 99;arc 3 4 99 99;"
            + "arc 4 5 99 99;arc 5 6 99 99;").least(), 6 * 99 * 99);
        due("the least that there can be", laid("gain 0 1 99 99;gain 1 0 99 99;".repeat(7)).least(), -14 * 99 * 99);
        due("a ring of 0", laid("gain 0 1 9 5;arc 1 0 9 5;").least(), 0);
        due("a ring of -1", laid("gain 0 1 9 5;arc 1 0 9 4;").least(), -9);
        due("dear but needed", laid("points 3;supply 0 9;want 2 9;arc 0 2 8 0;arc 0 1 1 99;arc 1 2 1 99;").least(), 198);
    }

    private void lackOfPlans() {
        sentence("LACK: how much UNMET there is at the least, were each ARC to have any number from 0 to its BOUND (0 if BLOCKED), and LOANS what is missing.");
        // What can not go is lent twice: taken at one POINT, given at another one.
        due("nothing carried", laid("supply 0 1;want 1 1;").lack(), 2);
        due("one of two", laid("supply 0 2;want 1 2;arc 0 1 1 1;").lack(), 2);
        due("all", laid("supply 0 2;want 1 2;arc 0 1 2 1;").lack(), 0);
        due("BLOCKED", laid("supply 0 2;want 1 2;arc 0 1 2 1;block 0;").lack(), 4);
        due("the most", laid("points 6;supply 0 99;supply 1 99;supply 2 99;want 3 99;want 4 99;want 5 99;").lack(), 594);
        due("not that of now", laid(THREE).lack(), 0);
        TreeFlows x = best("supply 0 9;want 1 9;arc 0 1 3 1;");
        due("UNMET at the best", x.grid(4), 12);
        due("LACK", x.lack(), 12);
        x.cold();
        due("UNMET now", x.grid(4), 18);
        due("LACK", x.lack(), 12);
    }

    private void cutOfSets() {
        sentence("CUT: of all sets of POINTS those of which SUPPLIES together, less BOUNDS together of all ARCS not BLOCKED that lead out of the set, are most; of these the one with the fewest POINTS, of several the least as bits.");
        due("none is more than the empty one", laid(THREE).cut(), 0);
        due("of no SUPPLIES", laid("points 7;").cut(), 0);
        due("just met", laid("supply 0 5;want 1 5;arc 0 1 5 1;").cut(), 0);
        due("one missing", laid("supply 0 6;want 1 6;arc 0 1 5 1;").cut(), 1);
        due("BLOCKED ones do not count", laid("supply 0 5;want 1 5;arc 0 1 5 1;block 0;").cut(), 1);
        due("ones that lead in do not count", laid("supply 0 5;want 1 5;arc 1 0 99 1;").cut(), 1);
        String chain = "points 3;supply 0 9;want 2 9;arc 0 1 5 1;arc 1 2 5 1;";
        due("the fewest POINTS", laid(chain).cut(), 1);
        due("the narrower one", laid(chain.replace("1 2 5", "1 2 4")).cut(), 3);
        due("the narrower one", laid(chain.replace("0 1 5", "0 1 4")).cut(), 1);
        due("six of seven", laid("points 7;want 0 6;supply 1 1;supply 2 1;supply 3 1;supply 4 1;supply 5 1;supply 6 1;").cut(), 126);
        due("two parts that lack", laid("points 4;supply 0 3;want 1 3;supply 2 3;want 3 3;").cut(), 5);
        due("one part that lacks", laid("points 4;supply 0 3;want 1 3;supply 2 3;want 3 3;arc 0 1 3 1;").cut(), 4);
        due("with one that wants", laid("points 4;supply 0 9;want 1 2;want 3 7;arc 0 1 9 1;").cut(), 3);
    }

    private void spanTerms() {
        sentence("SPAN of an ARC, if it is BEST: of all COSTS from -99 to 99 that it could have, all else being as it is (FLOWS, the TREE; PRICES by that), so that none OFFERS, the least, the greatest.");
        dueSpans(THREE, new int[][] {{-99, 6}, {-99, 7}, {5, 99}});
        // Arc 0 is FULL, arc 1 in the TREE, arc 2 EMPTY, all at one COST: arc 1 can have no other one.
        dueSpans("supply 0 5;want 1 5;arc 0 1 3 4;arc 0 1 9 4;arc 0 1 9 4;", new int[][] {{-99, 4}, {4, 4}, {4, 99}});
        dueSpans("supply 0 5;want 1 5;arc 0 1 9 4;arc 0 1 9 4;", new int[][] {{-99, 4}, {4, 99}});
        dueSpans("supply 0 5;want 1 5;arc 0 1 9 4;", new int[][] {{-99, 99}});
        dueSpans("arc 0 1 9 4;arc 0 1 0 4;arc 0 1 9 4;block 2;", new int[][] {{0, 99}, {-99, 99}, {-99, 99}});
        dueSpans("supply 0 9;want 1 9;arc 0 1 3 99;", new int[][] {{-99, 99}});
        dueSpans("supply 0 5;want 1 5;arc 0 1 9 99;arc 0 1 9 99;", new int[][] {{-99, 99}, {99, 99}});
        dueSpans("supply 0 5;want 1 5;gain 0 1 3 99;gain 0 1 9 99;", new int[][] {{-99, -99}, {-99, 99}});
        // Up the way that the arc goes, and down it: 0 hangs by arc 0 by 1, which has its LOAN.
        dueSpans("points 3;supply 0 5;supply 2 4;want 1 9;arc 0 1 9 5;arc 0 1 9 7;arc 1 0 9 3;",
            new int[][] {{-3, 7}, {5, 99}, {-5, 99}});
    }

    /** Each COST from -99 to 99 is tried by charge(): just those of the SPAN let none OFFER. */
    private static void dueSpans(String text, int[][] spans) {
        for (int a = 0; a < spans.length; a++) {
            TreeFlows x = best(text);
            due("the least of " + a + " in " + text, x.span(a, false), spans[a][0]);
            due("the greatest of " + a + " in " + text, x.span(a, true), spans[a][1]);
            for (int cost = -99; cost <= 99; cost++) {
                x.charge(a, cost);
                boolean inside = cost >= spans[a][0] && cost <= spans[a][1];
                due("BEST with " + cost + " of " + a + " in " + text, x.grid(3), inside ? 1 : 0);
            }
        }
    }

    // ---- promises

    private void span() {
        sentence("SPAN: the least, or (high) the greatest. -1000: it is not BEST, there is no such ARC.");
        TreeFlows x = laid(THREE);
        due("not BEST", x.span(0, false), -1000);
        due("not BEST", x.span(0, true), -1000);
        x.pivots(60);
        due("span(2,false)", x.span(2, false), 5);
        due("span(2,true)", x.span(2, true), 99);
        due("span(3,false)", x.span(3, false), -1000);
        due("span(3,true)", x.span(3, true), -1000);
        for (int far : FAR) {
            due("span(far,false)", x.span(far, false), -1000);
            due("span(far,true)", x.span(far, true), -1000);
        }
        x.charge(0, 7);
        due("one beyond it", x.span(0, true), -1000);
        x.charge(0, 6);
        due("just on it", x.span(0, true), 6);
        due("of no ARCS", new TreeFlows().span(0, true), -1000);
    }

    private void least() {
        sentence("LEAST. -1000000: there is no PLAN.");
        TreeFlows x = laid(THREE);
        due("least() ahead of all PIVOTS", x.least(), 38);
        x.pivots(60);
        due("least() at the best", x.least(), 38);
        due("bill(1)", x.bill(1), 38);
        yes("just what can go", x.shift(0, 2, 1));
        due("least()", x.least(), 47);
        yes("one more than can go", x.shift(0, 2, 1));
        due("least()", x.least(), NO_PLAN);
        x.undo();
        due("least()", x.least(), 47);
    }

    private void lack() {
        sentence("LACK.");
        TreeFlows x = laid(THREE);
        x.shift(0, 2, 1);
        due("just met", x.lack(), 0);
        x.shift(0, 2, 1);
        due("one too much", x.lack(), 2);
        x.block(2, false);
        due("lack()", x.lack(), 8);
        x.pivots(60);
        due("UNMET at the best", x.grid(4), 8);
        x.block(0, false);
        due("all", x.lack(), 16);
    }

    private void cut() {
        sentence("CUT.");
        TreeFlows x = laid(THREE);
        x.shift(0, 2, 1);
        due("just met", x.cut(), 0);
        x.shift(0, 2, 1);
        due("one too much: 8 by 8 out of 0, by 7 out of 0 and 1", x.cut(), 3);
        x.widen(0, 3);
        due("by 6 out of 0", x.cut(), 1);
    }

    private void steps() {
        sentence("How many PIVOTS by a RULE from now on there are till it is BEST (what ENTERED last stays for round). NONE: another RULE.");
        TreeFlows x = laid(THREE);
        dueRow("steps", new int[] {3, 3, 4, -1}, x::steps);
        due("steps(-1)", x.steps(-1), -1);
        for (int far : FAR) {
            due("steps(far)", x.steps(far), -1);
        }
        for (int r = 0; r <= 2; r++) {
            TreeFlows y = laid(THREE);
            y.rule(r);
            due("as it goes by rule " + r, y.pivots(60), x.steps(r));
        }
        x.pivots(60);
        dueRow("at the best", new int[] {0, 0, 0, -1}, x::steps);
        due("of no ARCS", new TreeFlows().steps(0), 0);
        TreeFlows z = laid("supply 0 4;want 1 4;arc 0 1 9 8;arc 0 1 9 1;");
        dueRow("at first", new int[] {2, 1, 2}, z::steps);
        z.pivot();
        z.cold();
        due("0 ENTERED last: round begins with 1", z.steps(2), 1);
        due("first begins with 0", z.steps(0), 2);
    }

    private void worth() {
        sentence("What 0: LEAST, were the BOUND of an ARC 1 more; 1: were it BLOCKED; 2: were its COST 1 more; each less LEAST.");
        TreeFlows x = laid(THREE);
        int[][] want = {{0, NO_PLAN, 4}, {-4, NO_PLAN, 4}, {0, NO_PLAN, 2}};
        for (int a = 0; a < 3; a++) {
            int arc = a;
            dueRow("of " + a, want[a], w -> x.worth(arc, w));
        }
        x.pivots(60);
        for (int a = 0; a < 3; a++) {
            int arc = a;
            dueRow("at the best, of " + a, want[a], w -> x.worth(arc, w));
        }
        x.shift(2, 0, 4);
        dueRow("two are wanted: of 0", new int[] {0, 8, 2}, w -> x.worth(0, w));
        x.pivots(60);
        dueRow("at the best: of 0", new int[] {0, 8, 2}, w -> x.worth(0, w));
        dueRow("at the best: of 1", new int[] {0, 8, 2}, w -> x.worth(1, w));
        dueRow("at the best: of 2", new int[] {0, 0, 0}, w -> x.worth(2, w));
        TreeFlows y = laid("supply 0 99;want 1 99;arc 0 1 98 1;arc 0 1 99 99;arc 0 1 0 50;arc 0 1 9 0;block 3;");
        due("least()", y.least(), 98 + 99);
        dueRow("of 0", new int[] {-98, 98 * 98, 98}, w -> y.worth(0, w));
        dueRow("BOUND 99, COST 99", new int[] {0, NO_PLAN, 1}, w -> y.worth(1, w));
        dueRow("BOUND 0", new int[] {-49, 0, 0}, w -> y.worth(2, w));
        dueRow("BLOCKED", new int[] {0, 0, 0}, w -> y.worth(3, w));
        TreeFlows gain = laid("supply 0 99;want 1 99;gain 0 1 99 99;");
        dueRow("at the least COST", new int[] {0, NO_PLAN, 99}, w -> gain.worth(0, w));
        TreeFlows ring = laid("gain 0 1 99 5;arc 1 0 99 4;");
        dueRow("a ring", new int[] {0, 99, 99}, w -> ring.worth(0, w));
        TreeFlows wider = laid("gain 0 1 99 5;gain 1 0 98 4;");
        due("a ring with more room", wider.worth(1, 0), -9);
        due("the BOUND would be 100", laid("gain 0 1 99 5;arc 1 0 99 0;arc 1 0 9 0;").worth(0, 0), -5);
    }

    private void worthNone() {
        sentence("-1000000: there is no PLAN then, or none now, there is none such, another what.");
        TreeFlows x = laid(THREE);
        due("none then", x.worth(0, 1), NO_PLAN);
        due("none such", x.worth(3, 0), NO_PLAN);
        for (int far : FAR) {
            due("none such", x.worth(far, 0), NO_PLAN);
            due("another what", x.worth(0, far), NO_PLAN);
        }
        due("another what", x.worth(0, 3), NO_PLAN);
        x.shift(0, 2, 1);
        // All arcs but arc 0 are needed to the brim, and just met.
        due("none then", x.worth(1, 1), NO_PLAN);
        due("met now", x.worth(2, 2), 3);
        x.shift(0, 2, 1);
        for (int what = 0; what <= 2; what++) {
            due("none now", x.worth(1, what), NO_PLAN);
        }
        due("none now, though there were one then", x.worth(2, 0), NO_PLAN);
        x.widen(2, 4);
        due("just that one", x.least(), 4 * 5 + 4 * 9);
        due("of no ARCS", new TreeFlows().worth(0, 0), NO_PLAN);
    }

    private void toll() {
        sentence("LEAST, were SUPPLY of a POINT 1 more, that of another one 1 less (however much that is), less LEAST.");
        TreeFlows x = laid(THREE);
        int[][] want = {{NO_PLAN, 2, 9}, {-2, NO_PLAN, 7}, {-9, -7, NO_PLAN}};
        for (int p = 0; p < 3; p++) {
            for (int q = 0; q < 3; q++) {
                due("toll(" + p + "," + q + ")", x.toll(p, q), want[p][q]);
            }
        }
        x.pivots(60);
        for (int p = 0; p < 3; p++) {
            for (int q = 0; q < 3; q++) {
                due("at the best: toll(" + p + "," + q + ")", x.toll(p, q), want[p][q]);
            }
        }
        TreeFlows y = laid("supply 0 99;want 1 99;arc 0 1 99 1;arc 0 1 9 5;");
        for (int i = 0; i < 2; i++) {
            due("100 and -100", y.toll(0, 1), 5);
            due("98 and -98", y.toll(1, 0), -1);
            y.pivots(60);
        }
        sentence("-1000000: there is no PLAN then, or none now, no such POINTS, the same one twice.");
        for (int p = 0; p < 3; p++) {
            due("the same one twice", x.toll(p, p), NO_PLAN);
            due("the ROOT", x.toll(p, 3), NO_PLAN);
            due("the ROOT", x.toll(3, p), NO_PLAN);
        }
        for (int far : FAR) {
            due("toll(far,0)", x.toll(far, 0), NO_PLAN);
            due("toll(0,far)", x.toll(0, far), NO_PLAN);
        }
        x.shift(0, 2, 1);
        due("none then", x.toll(0, 2), NO_PLAN);
        due("met now", x.toll(2, 0), -9);
        x.shift(0, 2, 1);
        due("none now, though there were one then", x.toll(2, 0), NO_PLAN);
        due("none now, none then", x.toll(0, 2), NO_PLAN);
    }

    // ---- kept

    private void image() {
        sentence("All that there is (THE TEXT, the FAULT, too) is kept as k, 0 to 2: true; false for another k.");
        TreeFlows x = new TreeFlows();
        for (int far : FAR) {
            no("image(" + far + ")", x.image(far));
        }
        no("image(3)", x.image(3));
        for (int k = 0; k < 3; k++) {
            due("apart(" + k + ")", x.apart(k), -1);
            yes("image(" + k + ")", x.image(k));
            due("apart(" + k + ")", x.apart(k), 0);
        }
        Texts.spell(x, "points 9;");
        x.lay();
        Texts.spell(x, "steep;");
        yes("image(1)", x.image(1));
        due("THE TEXT stays", x.grid(10), 6);
        due("the FAULT stays", x.fault(false), 2);
        x.lay();
        yes("image(2)", x.image(2));
        yes("again(1)", x.again(1));
        due("THE TEXT", x.grid(10), 6);
        due("the FAULT", x.fault(false), 2);
        due("its place", x.fault(true), 7);
        due("the RULE", x.grid(2), 0);
        due("lay() of the TEXT that was kept", x.lay(), 0);
        due("the RULE", x.grid(2), 1);
        yes("again(0)", x.again(0));
        due("THE TEXT", x.grid(10), 0);
        due("the FAULT", x.fault(false), 0);
        due("the RULE", x.grid(2), 0);
        yes("again(2)", x.again(2));
        due("the RULE", x.grid(2), 1);
        Texts.spell(x, "points 3;");
        x.image(0);
        x.lay();
        Texts.spell(x, "round;x");
        x.again(0);
        due("lay() of the TEXT that was kept, not of the later one", x.lay(), 0);
        due("POINTS", x.grid(0), 3);
        due("the RULE", x.grid(2), 0);
        x = told(" ".repeat(394) + "round;");
        x.image(0);
        x.lay();
        x.again(0);
        due("400 bytes", x.grid(10), 400);
        due("spell()", x.spell(Texts.eight(" ")), -1);
        due("lay()", x.lay(), 0);
        due("the RULE", x.grid(2), 2);
    }

    private void again() {
        sentence("All is as it was kept as k: true; false if there is none such.");
        TreeFlows x = laid(THREE);
        for (int k = -1; k <= 3; k++) {
            no("again(" + k + ") of none", x.again(k));
        }
        x.rule(2);
        x.pivots(2);
        x.charge(0, 5);
        x.image(1);
        String kept = seenButUndo(x);
        no("again(0)", x.again(0));
        no("again(2)", x.again(2));
        for (int far : FAR) {
            no("again(" + far + ")", x.again(far));
        }
        due("grid(11)", x.grid(11), 3);
        x.pivots(60);
        x.shift(0, 1, 9);
        x.widen(0, 77);
        x.block(1, false);
        x.rule(0);
        yes("again(1)", x.again(1));
        due("all", seenButUndo(x), kept);
        due("grid(11)", x.grid(11), 0);
        Texts.spell(x, "points 7;arc 5 6 1 1;");
        x.lay();
        yes("again(1) behind another grid", x.again(1));
        due("all", seenButUndo(x), kept);
        yes("again(1) once more", x.again(1));
        due("all", seenButUndo(x), kept);
        x.cold();
        due("what is kept stays as it was", x.apart(1), flowing(kept));
        yes("image(1) anew", x.image(1));
        x.pivots(60);
        yes("again(1)", x.again(1));
        due("of the new one", x.grid(7), 1);
        TreeFlows y = laid(THREE + "round;");
        due("pivot()", y.pivot(), 1);
        y.image(0);
        due("pivot()", y.pivot(), 2);
        y.again(0);
        due("round goes on behind what ENTERED last", y.next(0), 2);
    }

    /** How many arcs of a told state carry anything. */
    private static int flowing(String seen) {
        int found = 0;
        for (String part : seen.split("\\| ")) {
            if (part.startsWith("arc ") && !part.split(" ")[6].equals("0")) {
                found++;
            }
        }
        return found;
    }

    private void constants() {
        sentence("The constants: `NONE = -1`: There is none.");
        due("NONE", TreeFlows.NONE, -1);
    }

    private void calls() {
        sentence("An object is used for at most 512 calls after it has been made; what later calls answer is free.");
        TreeFlows x = new TreeFlows();
        for (int call = 1; call + 2 <= 512; call += 3) {
            due("shift in call " + call, x.shift(0, 1, 1) ? 1 : 0, 1);
            due("shift in call " + (call + 1), x.shift(1, 0, 1) ? 1 : 0, 1);
            due("grid(7) in call " + (call + 2), x.grid(7), (call + 2) / 3 * 2);
        }
    }
}
