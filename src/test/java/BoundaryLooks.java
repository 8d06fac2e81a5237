/** What there is: promises 15 to 26, and the sentences of terms 3 on ROOM, WIDE, LEDGER, TRIPS. */
final class BoundaryLooks extends Boundary {
    private static final int[] FAR = {Integer.MIN_VALUE, Integer.MIN_VALUE + 10, -100000, -2, 100000, Integer.MAX_VALUE};
    /** A row of seven: 0 supplies, 6 wants; the TREE is a chain in the end. */
    private static final String ROW = "points 7;supply 0 5;want 6 5;arc 0 1 9 1;arc 1 2 9 1;arc 2 3 9 1;arc 3 4 9 1;"
        + "arc 4 5 9 1;arc 5 6 9 1;";

    @Override
    void run() {
        questions();
        toldNumbers();
        grid();
        gridTallies();
        arc();
        arcThrows();
        point();
        pointThrows();
        thread();
        path();
        pathRefused();
        next();
        past();
        bill();
        ledger();
        roomAndWide();
        wide();
        tripsStart();
        tripsRings();
        trip();
        apart();
    }

    private void questions() {
        sentence("Questions change nothing.");
        TreeFlows x = laid(THREE);
        x.rule(1);
        x.pivot();
        x.image(1);
        Texts.spell(x, "cold;");
        String ahead = seen(x);
        for (int i = -2; i <= 16; i++) {
            for (int k = -2; k <= 16; k++) {
                ask(x, i, k);
            }
        }
        due("all", seen(x), ahead);
        due("THE TEXT", x.grid(10), 5);
        due("the FAULT", x.fault(false), 0);
        due("undo()", x.undo(), 1);
        due("pivot()", x.pivot(), 1);
    }

    private static void ask(TreeFlows x, int i, int k) {
        x.grid(i);
        arcOf(x, i, k);
        pointOf(x, i, k);
        x.thread(i);
        x.path(i, k, 0);
        x.path(0, 2, i);
        x.next(i);
        x.past(i, k);
        x.bill(i);
        x.ledger(i, k > 0);
        x.wide(i, k);
        x.trip(i, k);
        x.apart(i);
        x.span(i, k > 0);
        x.least();
        x.lack();
        x.cut();
        x.steps(i);
        x.worth(i, k);
        x.toll(i, k);
        x.fault(k > 0);
    }

    private void toldNumbers() {
        sentence("Sets are bits. ARCS are told by numbers, LOANS as 100 and the POINT; the ROOT is told as the number of POINTS.");
        for (int n = 2; n <= 7; n++) {
            int last = n - 1;
            TreeFlows x = laid("points " + n + ";supply " + last + " 1;want 0 1;arc " + last + " 0 1 1;");
            due("the LOAN of the last", pointOf(x, last, 3), 100 + last);
            due("the ROOT", pointOf(x, last, 2), n);
            due("the JOIN", x.next(3), n);
            due("what LEAVES", x.next(1), 100);
            due("the first of the CYCLE", x.next(10), 100 + last);
            due("the first of the path", x.path(last, 0, 10), 100 + last);
            due("a set", laid("points " + n + ";supply " + last + " 1;want 0 1;").cut(), 1 << last);
            x.pivot();
            due("what LEFT", x.past(0, 1), 100);
            due("an ARC", pointOf(x, 0, 3), 0);
            due("a POINT", pointOf(x, 0, 2), last);
        }
    }

    // ---- promises

    private void grid() {
        sentence("What 0: POINTS, 1: ARCS, 2: the RULE, 3: 1 if it is BEST, else 0, 4: UNMET, 5: PIVOTS since the text was read, 6: those with DELTA 0, 7: how often it BEGAN since then (the first one not counted), 8: the ARC that ENTERED last since then (NONE), 9: how many OFFER, 10: bytes of THE TEXT, 11: what can be undone.");
        TreeFlows x = laid(THREE);
        dueRow("at first", new int[] {3, 3, 0, 0, 12, 0, 0, 0, -1, 2, 0, 0}, x::grid);
        x.pivot();
        dueRow("a PIVOT of DELTA 0", new int[] {3, 3, 0, 0, 12, 1, 1, 0, 1, 2, 0, 1}, x::grid);
        x.pivots(60);
        x.rule(2);
        Texts.spell(x, "x");
        dueRow("at the best", new int[] {3, 3, 2, 1, 0, 3, 1, 0, 2, 0, 1, 3}, x::grid);
        sentence("NONE for another what.");
        due("grid(12)", x.grid(12), -1);
        due("grid(-1)", x.grid(-1), -1);
        for (int far : FAR) {
            due("grid(" + far + ")", x.grid(far), -1);
        }
    }

    private void gridTallies() {
        sentence("5: PIVOTS since the text was read, 6: those with DELTA 0, 7: how often it BEGAN since then (the first one not counted), 8: the ARC that ENTERED last since then (NONE),");
        TreeFlows x = best(THREE);
        x.cold();
        x.shift(0, 2, 1);
        x.block(0, false);
        x.block(0, true);
        x.widen(0, 9);
        x.charge(0, 9);
        x.rule(1);
        due("cold, shift, block, open, widen", x.grid(7), 5);
        due("no, of x", x.shift(0, 0, 1) ? 1 : x.grid(7), 5);
        due("PIVOTS stay", x.grid(5), 3);
        due("DELTA 0 stays", x.grid(6), 1);
        due("ENTERED stays", x.grid(8), 2);
        Texts.spell(x, "x");
        x.lay();
        due("a FAULT lets them stay", x.grid(7), 5);
        Texts.spell(x, THREE);
        x.lay();
        dueRow("of a new text", new int[] {0, 0, 0, -1}, k -> x.grid(5 + k));
        x.pivots(2);
        x.undo();
        dueRow("undone", new int[] {0, 0, 0, -1}, k -> x.grid(5 + k));
    }

    private void arc() {
        sentence("Of an ARC, what 0: from, 1: to, 2: BOUND, 3: COST, 4: FLOW, 5: 0 EMPTY, 1 FULL, 2 in the TREE, 3 BLOCKED, 6: REDUCED, 7: 1 if it OFFERS, else 0.");
        TreeFlows x = best(THREE);
        dueRow("in the TREE", new int[] {0, 1, 5, 2, 4, 2, 0, 0}, w -> x.arc(0, w));
        dueRow("FULL", new int[] {1, 2, 4, 3, 4, 1, -4, 0}, w -> x.arc(1, w));
        TreeFlows y = laid("points 7;supply 6 9;want 5 9;gain 6 5 99 99;arc 5 6 0 0;arc 6 5 1 1;block 2;");
        dueRow("EMPTY", new int[] {6, 5, 99, -99, 0, 0, -99 - 20000, 1}, w -> y.arc(0, w));
        dueRow("EMPTY without a BOUND", new int[] {5, 6, 0, 0, 0, 0, 20000, 0}, w -> y.arc(1, w));
        dueRow("BLOCKED", new int[] {6, 5, 1, 1, 0, 3, 1 - 20000, 0}, w -> y.arc(2, w));
    }

    private void arcThrows() {
        sentence("NoSuchElementException: there is none such, another what.");
        for (int n = 0; n <= 14; n++) {
            TreeFlows x = laid("arc 0 1 1 1;".repeat(n));
            due("arc(" + n + ",0) of " + n, arcOf(x, n, 0), THROWN);
            due("arc(-1,0) of " + n, arcOf(x, -1, 0), THROWN);
            if (n > 0) {
                due("the last", arcOf(x, n - 1, 0), 0);
                due("arc(0,8)", arcOf(x, 0, 8), THROWN);
                due("arc(0,-1)", arcOf(x, 0, -1), THROWN);
            }
            for (int far : FAR) {
                due("arc(far,0)", arcOf(x, far, 0), THROWN);
                due("arc(0,far)", arcOf(x, 0, far), THROWN);
                due("arc(far,far)", arcOf(x, far, far), THROWN);
            }
        }
        TreeFlows x = laid(THREE);
        due("a LOAN is no ARC here", arcOf(x, 100, 0), THROWN);
        Texts.spell(x, "arc 0 1 1 1;");
        x.lay();
        due("one of the text ahead", arcOf(x, 1, 0), THROWN);
    }

    private void point() {
        sentence("Of a POINT, what 0: SUPPLY, 1: PRICE, 2: the next one on the way in the TREE to the ROOT, 3: the ARC or LOAN to that, 4: how many of these there are up to the ROOT, 5: how many POINTS have it on their way (itself, too), 6: FLOW of its LOAN (below 0: from the ROOT).");
        TreeFlows x = laid(ROW);
        dueRow("0", new int[] {5, -10000, 7, 100, 1, 1, 5}, w -> x.point(0, w));
        dueRow("6", new int[] {-5, 10000, 7, 106, 1, 1, -5}, w -> x.point(6, w));
        dueRow("3", new int[] {0, -10000, 7, 103, 1, 1, 0}, w -> x.point(3, w));
        x.pivots(60);
        // At last the LOAN of 6 has left: all hang by 0.
        for (int p = 0; p < 7; p++) {
            int at = p;
            int[] want = {p == 0 ? 5 : p == 6 ? -5 : 0, -10000 + p, p == 0 ? 7 : p - 1, p == 0 ? 100 : p - 1, p + 1, 7 - p, 0};
            dueRow("of " + p, want, w -> x.point(at, w));
        }
    }

    private void pointThrows() {
        sentence("NoSuchElementException: there is none such, another what.");
        for (int n = 2; n <= 7; n++) {
            TreeFlows x = laid("points " + n + ";");
            due("point(last,0)", pointOf(x, n - 1, 0), 0);
            due("the ROOT is no POINT", pointOf(x, n, 0), THROWN);
            due("point(-1,0)", pointOf(x, -1, 0), THROWN);
            due("point(0,7)", pointOf(x, 0, 7), THROWN);
            due("point(0,-1)", pointOf(x, 0, -1), THROWN);
            due("point(n,7)", pointOf(x, n, 7), THROWN);
            for (int far : FAR) {
                due("point(far,0)", pointOf(x, far, 0), THROWN);
                due("point(0,far)", pointOf(x, 0, far), THROWN);
            }
        }
    }

    private void thread() {
        sentence("The TREE gone along from the ROOT down, each POINT ahead of those that have it on their way, of several next ones the least first: the k-th POINT, from 0 on. NONE: not so many.");
        for (int n = 2; n <= 7; n++) {
            TreeFlows x = laid("points " + n + ";");
            for (int k = 0; k < n; k++) {
                due("all by LOANS", x.thread(k), k);
            }
            due("thread(n)", x.thread(n), -1);
            due("thread(-1)", x.thread(-1), -1);
            for (int far : FAR) {
                due("thread(far)", x.thread(far), -1);
            }
        }
        TreeFlows row = best(ROW);
        dueRow("a row", new int[] {0, 1, 2, 3, 4, 5, 6, -1}, row::thread);
        TreeFlows turned = best("points 7;want 0 5;supply 6 5;arc 1 0 9 1;arc 2 1 9 1;arc 3 2 9 1;arc 4 3 9 1;arc 5 4 9 1;"
            + "arc 6 5 9 1;");
        dueRow("a row turned round", new int[] {6, 5, 4, 3, 2, 1, 0, -1}, turned::thread);
        // 5 hangs by its LOAN, 3 and 4 by 5, 6 by 3, 0 and 1 by 4; 2 by its own.
        TreeFlows x = best("points 7;supply 5 9;want 3 2;want 4 2;want 6 1;want 0 2;want 1 2;arc 5 3 9 1;arc 5 4 9 1;"
            + "arc 3 6 9 1;arc 4 0 9 1;arc 4 1 9 1;");
        dueRow("the next of each", new int[] {4, 4, 7, 5, 5, 7, 3}, p -> x.point(p, 2));
        dueRow("down to the end first", new int[] {2, 5, 3, 6, 4, 0, 1, -1}, x::thread);
    }

    private void path() {
        sentence("The way in the TREE from a POINT to another one, what 0: how many ARCS and LOANS, 1: the least room of them, going along it (as of a CYCLE; NONE: there is no bound to it), 2: what one costs along it (of those gone along backwards COST less), 10 + k: the k-th of them.");
        TreeFlows x = best(ROW);
        dueRow("from 0 to 6", new int[] {6, 4, 6}, w -> x.path(0, 6, w));
        dueRow("from 6 to 0", new int[] {6, 5, -6}, w -> x.path(6, 0, w));
        dueRow("from 0 to 6", new int[] {0, 1, 2, 3, 4, 5, -1000}, k -> x.path(0, 6, 10 + k));
        dueRow("from 6 to 0", new int[] {5, 4, 3, 2, 1, 0, -1000}, k -> x.path(6, 0, 10 + k));
        dueRow("of one", new int[] {1, 4, 1}, w -> x.path(2, 3, w));
        TreeFlows y = laid("points 3;supply 0 4;want 2 4;");
        due("along both LOANS: no bound", y.path(0, 2, 1), -1);
        due("against both", y.path(2, 0, 1), 4);
        due("along one, against one of 0", y.path(0, 1, 1), 0);
        due("against one of 4, against one of 0", y.path(2, 1, 1), 0);
        due("cost along both", y.path(0, 2, 2), 20000);
        due("cost against both", y.path(2, 0, 2), -20000);
        due("cost along one, against one", y.path(0, 1, 2), 0);
        dueRow("LOANS", new int[] {102, 100, -1000}, k -> y.path(2, 0, 10 + k));
        TreeFlows z = best(THREE);
        // By the JOIN 0: up arc 0 backwards, down arc 2.
        dueRow("from 1 to 2", new int[] {2, 1, 7}, w -> z.path(1, 2, w));
        dueRow("from 1 to 2", new int[] {0, 2, -1000}, k -> z.path(1, 2, 10 + k));
    }

    private void pathRefused() {
        sentence("-1000: no such POINTS, the same one twice, another what.");
        TreeFlows x = best(THREE);
        for (int what : new int[] {-1, 3, 4, 9, 12, 13, 99, Integer.MAX_VALUE, Integer.MIN_VALUE}) {
            due("path(0,1," + what + ")", x.path(0, 1, what), -1000);
        }
        for (int p = 0; p < 3; p++) {
            due("the same one twice", x.path(p, p, 0), -1000);
            due("the ROOT", x.path(p, 3, 0), -1000);
            due("the ROOT", x.path(3, p, 0), -1000);
            due("ahead of 0", x.path(p, -1, 0), -1000);
            due("ahead of 0", x.path(-1, p, 0), -1000);
        }
        for (int far : FAR) {
            due("path(far,0,0)", x.path(far, 0, 0), -1000);
            due("path(0,far,0)", x.path(0, far, 0), -1000);
            due("path(far,far,0)", x.path(far, far, 0), -1000);
        }
    }

    private void next() {
        sentence("The PIVOT that would be next, what 0: what ENTERS, 1: what LEAVES, 2: DELTA, 3: the JOIN, 4: how many there are in the CYCLE, 10 + k: the k-th of it.");
        TreeFlows x = laid(THREE);
        x.pivot();
        dueRow("next", new int[] {0, 1, 4, 3, 4}, x::next);
        dueRow("next(10 + k)", new int[] {100, 0, 1, 102}, k -> x.next(10 + k));
        due("pivot() does just that", x.pivot(), 0);
        due("past(0,1)", x.past(0, 1), 1);
        due("past(0,2)", x.past(0, 2), 4);
        TreeFlows y = laid(ROW);
        int guard = 0;
        while (y.grid(3) == 0 && guard++ < 60) {
            int[] told = {y.next(0), y.next(1), y.next(2)};
            y.pivot();
            dueRow("told ahead", told, w -> y.past(0, w));
        }
        sentence("NONE: none OFFERS, another what.");
        x.undo();
        for (int what : new int[] {-1, 5, 6, 9, 14, 15, Integer.MAX_VALUE, Integer.MIN_VALUE}) {
            due("next(" + what + ")", x.next(what), -1);
        }
        for (int what = 0; what <= 20; what++) {
            due("next(" + what + ") at the best", y.next(what), -1);
        }
    }

    private void past() {
        sentence("Of the k-th latest PIVOT since the text was read (0: the latest; 12 are kept), what 0: what ENTERED, 1: what LEFT, 2: DELTA. NONE: not so many, another what.");
        TreeFlows x = laid(THREE);
        due("none yet", x.past(0, 0), -1);
        int[][] three = {{2, 102, 2}, {0, 1, 4}, {1, 101, 0}};
        x.pivots(60);
        for (int k = 0; k < 3; k++) {
            int at = k;
            dueRow("past(" + k + ")", three[k], w -> x.past(at, w));
        }
        due("past(3,0)", x.past(3, 0), -1);
        due("past(-1,0)", x.past(-1, 0), -1);
        due("past(0,3)", x.past(0, 3), -1);
        due("past(0,-1)", x.past(0, -1), -1);
        for (int far : FAR) {
            due("past(far,0)", x.past(far, 0), -1);
            due("past(0,far)", x.past(0, far), -1);
        }
        for (int made = 4; made <= 30; made++) {
            if (made % 3 == 1) {
                x.cold();
            }
            x.pivot();
            for (int k = 0; k < 12; k++) {
                int number = made - k;
                int row = number % 3 == 0 ? 0 : number % 3 == 2 ? 1 : 2;
                due("the " + k + "-th of " + made, x.past(k, 2), number < 1 ? -1 : three[row][2]);
                due("the " + k + "-th of " + made, x.past(k, 1), number < 1 ? -1 : three[row][1]);
            }
            due("the 12-th of " + made, x.past(12, 0), -1);
        }
        x.undo();
        due("undone", x.past(0, 0), 0);
        x.pivot();
        x.cold();
        x.charge(1, 99);
        x.rule(1);
        due("another one, the 31st", x.pivot(), 2);
        dueRow("the 31st", new int[] {2, 2, 3}, w -> x.past(0, w));
        x.undo();
        dueRow("the 19th is told again", new int[] {1, 101, 0}, w -> x.past(11, w));
        x.image(0);
        x.pivots(60);
        x.again(0);
        dueRow("the 30th, kept", three[0], w -> x.past(0, w));
        dueRow("the 19th, kept", three[2], w -> x.past(11, w));
        Texts.spell(x, PAIR);
        x.lay();
        due("of a new text", x.past(0, 0), -1);
        x.pivots(60);
        dueRow("of a new text", new int[] {1, 101, 2}, w -> x.past(0, w));
        due("of a new text", x.past(2, 0), -1);
        x.again(0);
        dueRow("the 30th, kept", three[0], w -> x.past(0, w));
        dueRow("the 28th, kept", three[2], w -> x.past(2, w));
    }

    private void bill() {
        sentence("What all FLOWS of ARCS cost, times a scale. Integer.MIN_VALUE: it is no int.");
        int max = Integer.MAX_VALUE;
        int min = Integer.MIN_VALUE;
        TreeFlows x = best("supply 0 1;want 1 1;arc 0 1 1 1;");
        due("1 times MAX", x.bill(max), max);
        due("1 times MIN", x.bill(min), min);
        due("1 times 0", x.bill(0), 0);
        x.charge(0, -1);
        due("-1 times MAX", x.bill(max), -max);
        due("-1 times MIN is one too much", x.bill(min), min);
        due("-1 times MIN and 1", x.bill(min + 1), max);
        x.charge(0, 2);
        due("2 times 2^30 - 1", x.bill((1 << 30) - 1), max - 1);
        due("2 times 2^30 is one too much", x.bill(1 << 30), min);
        due("2 times -2^30", x.bill(-(1 << 30)), min);
        due("2 times -2^30 - 1", x.bill(-(1 << 30) - 1), min);
        due("2 times -2^30 + 1", x.bill(-(1 << 30) + 1), min + 2);
        due("2 times MAX", x.bill(max), min);
        due("2 times MIN", x.bill(min), min);
        x.charge(0, 0);
        due("0 times MIN", x.bill(min), 0);
        due("0 times MAX", x.bill(max), 0);
        TreeFlows all = best(RING.replace("arc 1 0 99 0", "gain 1 0 99 99"));
        due("all arcs at 99 times -99", all.bill(1), -14 * 99 * 99);
        due("times 15650", all.bill(15650), -137214 * 15650);
        due("times 15651", all.bill(15651), min);
        due("times -15650", all.bill(-15650), 137214 * 15650);
        due("times -15651", all.bill(-15651), min);
        due("LOANS cost nothing here", laid("supply 0 9;want 1 9;").bill(7), 0);
    }

    private void ledger() {
        sentence("LEDGER: COSTS at which anything flows by ARCS, rising; how much at each.");
        TreeFlows all = best("gain 0 1 1 99;gain 0 1 2 98;gain 0 1 3 97;gain 0 1 4 96;gain 0 1 5 95;gain 0 1 6 94;gain 0 1 7 93;"
            + "arc 1 0 7 1;arc 1 0 6 2;arc 1 0 5 3;arc 1 0 4 4;arc 1 0 3 5;arc 1 0 2 6;arc 1 0 1 7;");
        due("14 COSTS", all.ledger(-1, false), 14);
        for (int k = 0; k < 14; k++) {
            due("COST " + k, all.ledger(k, false), k < 7 ? k - 99 : k - 6);
            due("how much " + k, all.ledger(k, true), k < 7 ? k + 1 : 14 - k);
        }
        due("behind the last", all.ledger(14, false), -1000);
        TreeFlows x = best(THREE);
        x.charge(0, 0);
        x.charge(1, -99);
        x.charge(2, 99);
        dueRow("COSTS", new int[] {-99, 0, 99, -1000}, k -> x.ledger(k, false));
        dueRow("how much", new int[] {4, 4, 2, -1000}, k -> x.ledger(k, true));
        x.charge(0, 99);
        dueRow("COSTS", new int[] {-99, 99, -1000}, k -> x.ledger(k, false));
        dueRow("two at one COST", new int[] {4, 6, -1000}, k -> x.ledger(k, true));
        sentence("LEDGER: how many COSTS (k NONE), or of the k-th the COST, or (much) how much flows at it. -1000: not so many.");
        due("how many", x.ledger(-1, false), 2);
        due("how many, (much) or not", x.ledger(-1, true), 2);
        due("ledger(2,false)", x.ledger(2, false), -1000);
        due("ledger(2,true)", x.ledger(2, true), -1000);
        due("ledger(-2,false)", x.ledger(-2, false), -1000);
        for (int far : FAR) {
            due("ledger(far,false)", x.ledger(far, false), -1000);
            due("ledger(far,true)", x.ledger(far, true), -1000);
        }
        x.cold();
        due("how many of none", x.ledger(-1, false), 0);
        due("the first of none", x.ledger(0, false), -1000);
        TreeFlows half = laid("supply 0 1;want 1 1;arc 0 1 1 5;arc 0 1 1 5;arc 0 1 1 6;");
        half.pivot();
        due("COSTS at which nothing flows do not count", half.ledger(-1, false), 1);
        due("how much", half.ledger(0, true), 1);
    }

    private void roomAndWide() {
        sentence("ROOM between POINTS by FLOWS as they are: along an ARC that is not BLOCKED BOUND less FLOW, backwards its FLOW. WIDE from a POINT to another one: of all rows of POINTS, from one to the other one, none twice, each next to the one ahead by ROOM above 0, the greatest of the least ROOMS (of several ARCS between two the greatest ROOM counts).");
        TreeFlows x = best(THREE);
        // Rooms: 0 to 1 1, 1 to 0 4, 1 to 2 0, 2 to 1 4, 0 to 2 1, 2 to 0 2.
        int[][] want = {{-1, 1, 1}, {4, -1, 1}, {4, 4, -1}};
        for (int p = 0; p < 3; p++) {
            for (int q = 0; q < 3; q++) {
                due("wide(" + p + "," + q + ")", x.wide(p, q), want[p][q]);
            }
        }
        due("the greatest, not all together", laid("arc 0 1 5 1;arc 0 1 8 1;arc 0 1 7 1;").wide(0, 1), 8);
        TreeFlows y = best("supply 0 6;want 1 6;arc 0 1 6 1;arc 1 0 4 9;");
        due("backwards 6, along 4", y.wide(1, 0), 6);
        due("one at its BOUND has none along", y.wide(0, 1), 0);
        TreeFlows z = best("supply 0 2;want 1 2;arc 0 1 6 1;arc 1 0 4 9;");
        due("backwards 2, along 4", z.wide(1, 0), 4);
        due("along 4", z.wide(0, 1), 4);
        due("a longer row", laid("points 7;arc 0 6 2 1;arc 0 1 9 1;arc 1 2 8 1;arc 2 3 7 1;arc 3 4 6 1;arc 4 5 5 1;"
            + "arc 5 6 99 1;").wide(0, 6), 5);
        due("told from behind", laid("points 7;arc 5 6 4 1;arc 4 5 5 1;arc 3 4 6 1;arc 2 3 7 1;arc 1 2 8 1;arc 0 1 9 1;")
            .wide(0, 6), 4);
        due("a BLOCKED one", laid("arc 0 1 5 1;block 0;").wide(0, 1), 0);
        due("one without a BOUND", laid("arc 0 1 0 1;").wide(0, 1), 0);
        due("of 99", laid("arc 0 1 99 1;").wide(0, 1), 99);
    }

    private void wide() {
        sentence("WIDE. 0: there is no such row. NONE: no such POINTS, the same one twice.");
        TreeFlows x = laid("points 3;arc 0 1 5 1;");
        due("wide(0,1)", x.wide(0, 1), 5);
        due("wide(1,0)", x.wide(1, 0), 0);
        due("wide(0,2)", x.wide(0, 2), 0);
        due("wide(2,0)", x.wide(2, 0), 0);
        for (int p = 0; p < 3; p++) {
            due("the same one twice", x.wide(p, p), -1);
            due("the ROOT", x.wide(p, 3), -1);
            due("the ROOT", x.wide(3, p), -1);
            due("ahead of 0", x.wide(p, -1), -1);
            due("ahead of 0", x.wide(-1, p), -1);
        }
        for (int far : FAR) {
            due("wide(far,0)", x.wide(far, 0), -1);
            due("wide(0,far)", x.wide(0, far), -1);
        }
    }

    // ---- trips

    private static void dueTrip(TreeFlows x, int k, int much, int... arcs) {
        due("much of trip " + k, x.trip(k, 0), much);
        due("arcs of trip " + k, x.trip(k, 1), arcs.length);
        dueRow("trip " + k, arcs, i -> x.trip(k, 10 + i));
        due("behind the last arc of trip " + k, x.trip(k, 10 + arcs.length), -1);
    }

    private void tripsStart() {
        sentence("TRIPS, by FLOWS of ARCS: as long as any is left, one goes from the least POINT from which more is left to go out than to come in, or, if there is none, from the least one from which any is left to go out, along the ARC of the least number by which any is left to go out, on and on, till it is at a POINT from which none is left to go out,");
        TreeFlows x = best(THREE);
        due("how many", x.trip(-1, 0), 2);
        dueTrip(x, 0, 4, 0, 1);
        dueTrip(x, 1, 2, 2);
        TreeFlows row = best(ROW);
        due("how many", row.trip(-1, 0), 1);
        dueTrip(row, 0, 5, 0, 1, 2, 3, 4, 5);
        // 1 and 2 supply, 0 only lets through: from 1 first, though 0 is less.
        TreeFlows y = best("points 4;supply 1 2;supply 2 3;want 3 5;arc 2 0 9 1;arc 1 0 9 1;arc 0 3 9 1;");
        dueFlows(y, 3, 2, 5);
        due("how many", y.trip(-1, 0), 2);
        dueTrip(y, 0, 2, 1, 2);
        dueTrip(y, 1, 3, 0, 2);
        TreeFlows one = best("points 3;supply 1 1;want 2 1;arc 1 0 9 1;arc 0 2 9 1;");
        due("how many", one.trip(-1, 0), 1);
        dueTrip(one, 0, 1, 0, 1);
        // At 1 arc 1 comes ahead of arc 2; what arc 1 leaves goes by arc 2.
        TreeFlows z = best("points 4;supply 0 7;want 2 3;want 3 4;arc 0 1 9 1;arc 1 3 9 1;arc 1 2 9 1;");
        due("how many", z.trip(-1, 0), 2);
        dueTrip(z, 0, 4, 0, 1);
        dueTrip(z, 1, 3, 0, 2);
        TreeFlows many = best("supply 0 14;want 1 14;" + "arc 0 1 1 1;".repeat(14));
        due("14 trips", many.trip(-1, 0), 14);
        for (int k = 0; k < 14; k++) {
            dueTrip(many, k, 1, k);
        }
        // Nothing met: flows of a warm beginning end where a loan takes them.
        TreeFlows open = best(ROW);
        open.block(3, false);
        due("flows that were half", open.trip(-1, 0), 2);
        dueTrip(open, 0, 9, 0, 1, 2);
        dueTrip(open, 1, 9, 4, 5);
    }

    private void tripsRings() {
        sentence("or at one at which it was already on this TRIP: then what lies ahead of that is none of it. So much as the least that is left by its ARCS is the TRIP, and is left no more by each of them.");
        TreeFlows x = best("points 4;supply 0 3;want 3 3;arc 0 1 9 1;gain 1 2 5 9;arc 2 1 5 1;arc 1 3 9 1;");
        dueFlows(x, 3, 5, 5, 3);
        due("how many", x.trip(-1, 0), 2);
        dueTrip(x, 0, 5, 1, 2);
        dueTrip(x, 1, 3, 0, 3);
        TreeFlows ring = best("points 7;gain 6 0 4 9;gain 5 6 9 9;gain 4 5 9 9;gain 3 4 9 9;gain 2 3 9 9;gain 1 2 9 9;gain 0 1 9 9;");
        due("one ring of seven", ring.trip(-1, 0), 1);
        dueTrip(ring, 0, 4, 6, 5, 4, 3, 2, 1, 0);
        TreeFlows high = best("points 7;gain 5 6 3 1;gain 6 5 2 1;");
        due("from the least from which any goes out", high.trip(-1, 0), 1);
        dueTrip(high, 0, 2, 0, 1);
        TreeFlows two = best("gain 0 1 2 9;gain 0 1 3 9;gain 1 0 4 9;gain 1 0 1 9;");
        due("parallel ones", two.trip(-1, 0), 3);
        dueTrip(two, 0, 2, 0, 2);
        dueTrip(two, 1, 2, 1, 2);
        dueTrip(two, 2, 1, 1, 3);
    }

    private void trip() {
        sentence("How many TRIPS (k NONE, what 0); of the k-th, what 0: how much, 1: how many ARCS, 10 + i: its i-th ARC. NONE: not so many, another what.");
        TreeFlows x = best(THREE);
        due("trip(2,0)", x.trip(2, 0), -1);
        due("trip(2,10)", x.trip(2, 10), -1);
        due("trip(-2,0)", x.trip(-2, 0), -1);
        for (int what : new int[] {-1, 2, 3, 9, 12, 13, 17, Integer.MAX_VALUE, Integer.MIN_VALUE}) {
            due("trip(0," + what + ")", x.trip(0, what), -1);
        }
        for (int what : new int[] {-1, 1, 2, 10, 11, Integer.MAX_VALUE, Integer.MIN_VALUE}) {
            due("trip(-1," + what + ")", x.trip(-1, what), -1);
        }
        for (int far : FAR) {
            due("trip(far,0)", x.trip(far, 0), -1);
            due("trip(far,10)", x.trip(far, 10), -1);
        }
        x.cold();
        due("how many of none", x.trip(-1, 0), 0);
        due("the first of none", x.trip(0, 0), -1);
        due("the first of none", x.trip(0, 1), -1);
        due("the first of none", x.trip(0, 10), -1);
    }

    private void apart() {
        sentence("How many ARCS have another FLOW in what is kept as image k (one that is not there has FLOW 0). NONE: there is none such.");
        TreeFlows x = best(THREE);
        for (int k = -1; k <= 3; k++) {
            due("none kept", x.apart(k), -1);
        }
        x.image(2);
        due("apart(2)", x.apart(2), 0);
        due("apart(1)", x.apart(1), -1);
        due("apart(0)", x.apart(0), -1);
        due("apart(3)", x.apart(3), -1);
        due("apart(-1)", x.apart(-1), -1);
        for (int far : FAR) {
            due("apart(far)", x.apart(far), -1);
        }
        x.charge(0, 1);
        due("another COST alone", x.apart(2), 0);
        x.cold();
        due("all three", x.apart(2), 3);
        x.lay();
        due("no ARCS here, three there", x.apart(2), 3);
        x.image(0);
        due("no ARCS on both sides", x.apart(0), 0);
        Texts.spell(x, "supply 0 14;want 1 14;" + "arc 0 1 1 1;".repeat(14));
        x.lay();
        x.image(1);
        x.pivots(60);
        due("14 ARCS here, none there", x.apart(0), 14);
        due("14 ARCS here, 14 EMPTY there", x.apart(1), 14);
        due("14 of 1 here, 4, 4, 2 there", x.apart(2), 14);
        x.image(0);
        yes("again(2)", x.again(2));
        due("three here, 14 there", x.apart(0), 14);
        due("three here, 14 EMPTY there", x.apart(1), 3);
        x.lay();
        due("no ARCS here, those of 4, 4, 2 there and ahead", x.apart(2), 3);
        x.image(0);
        x.again(2);
        due("4, 4, 2 here, no ARCS there, 4, 4, 2 ahead of that", x.apart(0), 3);
    }
}
