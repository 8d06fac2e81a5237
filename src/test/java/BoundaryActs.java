/** Acts: promises 8 to 14, and the sentences of terms 3 on BEGINNING, UNDO, refused calls. */
final class BoundaryActs extends Boundary {
    private static final int[] FAR = {Integer.MIN_VALUE, -100000, -2, -1, 100000, Integer.MAX_VALUE};

    @Override
    void run() {
        beginnings();
        shiftMuch();
        shiftSupplies();
        shiftRefused();
        block();
        widen();
        charge();
        cold();
        work();
        workRefused();
        workFault();
        undo();
        undoEachAct();
        undoKept();
        undoNone();
        refused();
    }

    private void beginnings() {
        sentence("Each reading of a text BEGINS COLD. A shift, a block, an opening, a new BOUND BEGINS WARM; a new COST leaves all but PRICES as it is.");
        TreeFlows x = best(THREE);
        Texts.spell(x, THREE);
        x.lay();
        dueStates(x, 0, 0, 0);
        String[] acts = {"shift 0 1 1;", "block 1;", "block 1;open 1;", "widen 1 5;"};
        int[][] flows = {{5, 4, 3}, {5, 0, 3}, {5, 0, 3}, {5, 5, 3}};
        for (int i = 0; i < acts.length; i++) {
            x = best(THREE);
            yes(acts[i], worked(x, acts[i]) > 0);
            dueFlows(x, flows[i]);
            for (int p = 0; p < 3; p++) {
                due("the TREE behind " + acts[i], pointOf(x, p, 3), 100 + p);
            }
        }
        x = best(THREE);
        yes("charge(0,50)", x.charge(0, 50));
        dueFlows(x, 4, 4, 2);
        dueStates(x, 2, 1, 2);
        duePrices(x, -10000, -9950, -9991);
        due("grid(7)", x.grid(7), 0);
        yes("charge(1,99) of a FULL one", x.charge(1, 99));
        duePrices(x, -10000, -9950, -9991);
        dueStates(x, 2, 1, 2);
    }

    // ---- promises

    private void shiftMuch() {
        sentence("SUPPLY of a POINT is so much more, 1 to 99, that of another one so much less: true.");
        TreeFlows x = laid("points 7;");
        yes("shift(0,6,1)", x.shift(0, 6, 1));
        dueSupplies(x, 1, 0, 0, 0, 0, 0, -1);
        yes("shift(5,4,99)", x.shift(5, 4, 99));
        dueSupplies(x, 1, 0, 0, 0, -99, 99, -1);
        due("grid(7)", x.grid(7), 2);
        dueLoans(x, 1, 0, 0, 0, -99, 99, -1);
        sentence("false: another number,");
        for (int much : new int[] {0, -1, -99, 100, Integer.MAX_VALUE, Integer.MIN_VALUE}) {
            no("shift(1,2," + much + ")", x.shift(1, 2, much));
        }
        dueSupplies(x, 1, 0, 0, 0, -99, 99, -1);
        due("grid(7)", x.grid(7), 2);
    }

    private void shiftSupplies() {
        sentence("a SUPPLY would be beyond -99 to 99.");
        TreeFlows x = laid("points 3;want 0 99;supply 1 99;");
        yes("from -99 to 0", x.shift(0, 1, 99));
        yes("from 0 to 99 and -99", x.shift(0, 1, 99));
        dueSupplies(x, 99, -99, 0);
        no("100 of 0", x.shift(0, 2, 1));
        no("-100 of 1", x.shift(2, 1, 1));
        no("both", x.shift(0, 1, 1));
        no("far beyond", x.shift(0, 2, 99));
        dueSupplies(x, 99, -99, 0);
        yes("away from 99", x.shift(2, 0, 1));
        yes("just to 99 again", x.shift(0, 2, 1));
        no("beyond 99", x.shift(0, 2, 1));
        yes("away from -99", x.shift(1, 2, 1));
        yes("just to -99 again", x.shift(2, 1, 1));
        no("beyond -99", x.shift(2, 1, 1));
        dueSupplies(x, 99, -99, 0);
    }

    private void shiftRefused() {
        sentence("no such POINTS, the same one twice,");
        for (int n = 2; n <= 7; n++) {
            TreeFlows x = laid("points " + n + ";");
            no("behind the last", x.shift(n, 0, 1) || x.shift(0, n, 1) || x.shift(n, n + 1, 1));
            no("ahead of 0", x.shift(-1, 0, 1) || x.shift(0, -1, 1));
            for (int p = 0; p < n; p++) {
                no("the same one twice", x.shift(p, p, 1));
            }
            for (int far : FAR) {
                no("far", x.shift(far, 0, 1) || x.shift(0, far, 1) || x.shift(far, far, 1));
            }
            yes("the last", x.shift(n - 1, 0, 1));
            due("grid(7)", x.grid(7), 1);
        }
    }

    private void block() {
        sentence("An ARC is BLOCKED, or (open) OPEN: true. false: it is so already, there is none such.");
        TreeFlows x = best(THREE);
        no("open already", x.block(2, true));
        yes("block(2,false)", x.block(2, false));
        no("blocked already", x.block(2, false));
        dueStates(x, 1, 1, 3);
        due("grid(7)", x.grid(7), 1);
        no("block(3,false)", x.block(3, false));
        no("block(3,true)", x.block(3, true));
        for (int far : FAR) {
            no("block(" + far + ")", x.block(far, false) || x.block(far, true));
        }
        due("grid(7)", x.grid(7), 1);
        yes("block(2,true)", x.block(2, true));
        no("open again", x.block(2, true));
        dueStates(x, 1, 1, 0);
        x = laid("arc 0 1 0 0;block 0;");
        no("told as BLOCKED", x.block(0, false));
        yes("open it", x.block(0, true));
        dueStates(x, 0);
        no("of no arcs", new TreeFlows().block(0, false));
    }

    private void widen() {
        sentence("The BOUND of an ARC is another one, 0 to 99: true. false: it is that already, another number, there is none such.");
        TreeFlows x = best(THREE);
        no("that already", x.widen(2, 3));
        for (int bound : new int[] {-1, 100, -99, Integer.MAX_VALUE, Integer.MIN_VALUE}) {
            no("widen(2," + bound + ")", x.widen(2, bound));
        }
        no("widen(3,1)", x.widen(3, 1));
        for (int far : FAR) {
            no("widen(" + far + ",1)", x.widen(far, 1));
        }
        due("grid(7)", x.grid(7), 0);
        yes("widen(2,0)", x.widen(2, 0));
        due("arc(2,2)", arcOf(x, 2, 2), 0);
        dueStates(x, 1, 1, 0);
        no("0 already", x.widen(2, 0));
        yes("widen(2,99)", x.widen(2, 99));
        due("arc(2,2)", arcOf(x, 2, 2), 99);
        no("99 already", x.widen(2, 99));
        due("grid(7)", x.grid(7), 2);
        yes("block(2,false)", x.block(2, false));
        yes("of a BLOCKED one", x.widen(2, 5));
        dueStates(x, 1, 1, 3);
    }

    private void charge() {
        sentence("The COST of an ARC is another one, -99 to 99: true. false: it is that already, another number, there is none such.");
        TreeFlows x = best(THREE);
        no("that already", x.charge(2, 9));
        for (int cost : new int[] {-100, 100, Integer.MAX_VALUE, Integer.MIN_VALUE}) {
            no("charge(2," + cost + ")", x.charge(2, cost));
        }
        no("charge(3,1)", x.charge(3, 1));
        for (int far : FAR) {
            no("charge(" + far + ",1)", x.charge(far, 1));
        }
        due("grid(11)", x.grid(11), 1);
        for (int cost : new int[] {-99, 99, 0, -1, 1}) {
            yes("charge(2," + cost + ")", x.charge(2, cost));
            due("arc(2,3)", arcOf(x, 2, 3), cost);
            due("point(2,1)", pointOf(x, 2, 1), -10000 + cost);
            no("that already", x.charge(2, cost));
        }
        due("grid(11)", x.grid(11), 6);
        due("grid(7)", x.grid(7), 0);
    }

    private void cold() {
        sentence("All BEGINS COLD.");
        TreeFlows x = best(THREE);
        x.rule(2);
        x.block(1, false);
        x.cold();
        dueFlows(x, 0, 0, 0);
        dueStates(x, 0, 3, 0);
        dueLoans(x, 6, 0, -6);
        dueRow("grid", new int[] {3, 3, 2, 0, 12, 3, 1, 2, 2, 1}, x::grid);
        x.cold();
        due("it BEGAN once more", x.grid(7), 3);
        due("an act all the same", x.grid(11), 5);
        TreeFlows y = new TreeFlows();
        y.cold();
        due("of no arcs", y.grid(7), 1);
    }

    private void work() {
        sentence("THE TEXT is read as ORDERS (it is empty then), and these are done one by one as by calls (pivot as pivots(); gain as charge()),");
        TreeFlows x = laid(THREE);
        due("of nothing", x.work(), 0);
        due("grid(11) of nothing", x.grid(11), 0);
        due("of blanks", worked(x, " \n "), 0);
        due("grid(10)", x.grid(10), 0);
        due("grid(11) of blanks", x.grid(11), 0);
        due("work()", worked(x, "pivot 60;shift 0 2 1;block 1;open 1;widen 1 5;charge 1 9;gain 1 9;cold;steep;"), 9);
        TreeFlows y = laid(THREE);
        y.pivots(60);
        y.shift(0, 2, 1);
        y.block(1, false);
        y.block(1, true);
        y.widen(1, 5);
        y.charge(1, 9);
        y.charge(1, -9);
        y.cold();
        y.rule(1);
        due("as by calls", seenButUndo(x), seenButUndo(y));
        due("grid(10)", x.grid(10), 0);
        due("grid(11)", x.grid(11), 1);
        due("by calls", y.grid(11), 9);
        for (int r = 0; r <= 2; r++) {
            due("a RULE", worked(y, new String[] {"first;", "steep;", "round;"}[r]), 1);
            due("grid(2)", y.grid(2), r);
        }
        due("the last RULE", worked(y, "round;first;round;steep;"), 4);
        due("grid(2)", y.grid(2), 1);
        due("80 lines", worked(x, "cold;".repeat(80)), 80);
        due("grid(7)", x.grid(7), 85);
        due("fewer PIVOTS than told", worked(laid(THREE), "pivot 60;round;"), 2);
        x = laid(THREE);
        due("not more than told", worked(x, "pivot 2;"), 1);
        due("grid(5)", x.grid(5), 2);
    }

    private void workRefused() {
        sentence("till one is refused (of pivot: if none OFFERS): how many were done.");
        String[] refused = {"pivot 1;", "shift 0 0 1;", "shift 0 3 1;", "shift 0 1 94;", "block 3;", "open 0;", "open 3;",
            "widen 0 5;", "widen 3 1;", "charge 0 2;", "charge 3 1;", "charge 13 0;", "gain 3 1;"};
        for (String order : refused) {
            TreeFlows x = best(THREE);
            String ahead = seen(x);
            due(order + " at once", worked(x, order + "round;cold;"), 0);
            due("nothing is done of " + order, seen(x), ahead);
            due("THE TEXT is empty", x.grid(10), 0);
            due("no FAULT", x.fault(false), 0);
            due(order + " behind one", worked(x, "steep;" + order + "cold;round;"), 1);
            due("the RULE", x.grid(2), 1);
            due("no cold", x.grid(7), 0);
            due("one act more", x.grid(11), 2);
            due(order + " behind two", worked(x, "first;charge 2 8;" + order), 2);
            due("one act more", x.grid(11), 3);
        }
        TreeFlows x = laid(THREE);
        due("pivot, pivot, pivot that none OFFERS", worked(x, "pivot 2;pivot 1;pivot 60;cold;"), 2);
        due("grid(5)", x.grid(5), 3);
        x = laid("arc 0 1 5 0;");
        due("gain of the COST that there is", worked(x, "gain 0 0;cold;"), 0);
        due("block twice", worked(x, "block 0;block 0;cold;"), 1);
        due("open twice", worked(x, "open 0;open 0;cold;"), 1);
    }

    private void workFault() {
        sentence("NONE: a FAULT, told by fault() as of lay() (nothing is done).");
        TreeFlows x = laid(THREE);
        String ahead = seen(x);
        due("fault 1", worked(x, "cold;pivot 3;cold"), -1);
        due("fault(false)", x.fault(false), 1);
        due("fault(true)", x.fault(true), 17);
        due("nothing is done", seen(x), ahead);
        due("THE TEXT is empty", x.grid(10), 0);
        due("fault 2", worked(x, "cold;pivot 3;pivot 61;"), -1);
        due("fault(false)", x.fault(false), 2);
        due("fault(true)", x.fault(true), 19);
        due("nothing is done", seen(x), ahead);
        due("a number of an ARC that is not there is no FAULT", worked(x, "block 13;"), 0);
        due("fault(false)", x.fault(false), 0);
    }

    // ---- undo

    private void undo() {
        sentence("UNDO: how many are left to be undone. NONE: there is none.");
        TreeFlows x = laid(THREE);
        due("undo() of none", x.undo(), -1);
        x.cold();
        due("undo() of one", x.undo(), 0);
        due("undo() of none", x.undo(), -1);
        for (int n = 1; n <= 12; n++) {
            x = laid(THREE);
            for (int i = 0; i < n; i++) {
                x.cold();
            }
            int kept = Math.min(n, 10);
            due("grid(11)", x.grid(11), kept);
            for (int left = kept - 1; left >= 0; left--) {
                due("undo()", x.undo(), left);
                due("grid(11)", x.grid(11), left);
            }
            due("undo() of none", x.undo(), -1);
            due("grid(7)", x.grid(7), n - kept);
        }
    }

    private void undoEachAct() {
        sentence("UNDO: the latest act that was not refused (pivot() that ENTERED, pivots() of one or more, rule(), shift(), block(), widen(), charge(), cold(), work() of one line or more),");
        for (int act = 0; act < 12; act++) {
            TreeFlows x = laid(THREE);
            x.rule(2);
            x.pivot();
            String ahead = seen(x);
            yes("act " + act, done(x, act));
            due("grid(11) behind act " + act, x.grid(11), 3);
            due("undo() of act " + act, x.undo(), 2);
            due("as if act " + act + " had not been", seen(x), ahead);
            due("next(0)", x.next(0), 2);
        }
        sentence("is as if it had not been (all of 2, the RULE, what was told of them; tallies, too).");
        TreeFlows x = laid(THREE);
        String[] ahead = new String[10];
        for (int i = 0; i < 10; i++) {
            ahead[i] = seenButUndo(x);
            yes("act", done(x, i));
        }
        for (int i = 9; i >= 0; i--) {
            due("undo()", x.undo(), i);
            due("as ahead of act " + i, seenButUndo(x), ahead[i]);
        }
        x = told("cold");
        x.cold();
        worked(x, ";cold;x");
        Texts.spell(x, "abc");
        due("undo()", x.undo(), 0);
        due("THE TEXT is none of 2", x.grid(10), 3);
        due("the FAULT is none of 2", x.fault(false), 1);
        due("its place", x.fault(true), 10);
    }

    private static boolean done(TreeFlows x, int act) {
        switch (act) {
            case 0: return x.pivot() >= 0;
            case 1: return x.pivots(60) > 0;
            case 2: return x.rule(1);
            case 3: return x.shift(0, 1, 1);
            case 4: return x.block(0, false);
            case 5: return x.widen(1, 0);
            case 6: return x.charge(2, -99);
            case 7: x.cold(); return true;
            case 8: return worked(x, "cold;pivot 1;steep;gain 1 7;") > 0;
            case 9: return x.block(2, false);
            case 10: x.block(1, false); x.undo(); return x.rule(x.grid(2));
            default: return worked(x, "cold;open 2;") == 1;
        }
    }

    private void undoKept() {
        sentence("of 10 that are kept, the latest ones,");
        TreeFlows x = laid(THREE);
        for (int i = 1; i <= 37; i++) {
            yes("charge", x.charge(0, i + 10));
            due("grid(11)", x.grid(11), Math.min(i, 10));
        }
        for (int i = 9; i >= 5; i--) {
            due("undo()", x.undo(), i);
        }
        due("arc(0,3)", arcOf(x, 0, 3), 42);
        for (int i = 0; i < 3; i++) {
            yes("charge", x.charge(0, -i - 10));
        }
        due("grid(11)", x.grid(11), 8);
        for (int i = 7; i >= 0; i--) {
            due("undo()", x.undo(), i);
        }
        due("undo()", x.undo(), -1);
        due("arc(0,3) ahead of the tenth latest", arcOf(x, 0, 3), 37);
        for (int i = 0; i < 11; i++) {
            yes("charge", x.charge(1, 50 + i));
        }
        for (int i = 9; i >= 0; i--) {
            due("undo()", x.undo(), i);
        }
        due("the 11th latest stays", arcOf(x, 1, 3), 50);
        for (int i = 0; i < 13; i++) {
            yes("charge", x.charge(2, 20 + i));
            no("a refused one takes no place", x.charge(2, 20 + i) || x.charge(2, 100) || x.shift(0, 0, 1));
            due("a refused one takes no place", worked(x, "open 0;"), 0);
        }
        due("grid(11)", x.grid(11), 10);
        for (int i = 9; i >= 0; i--) {
            due("undo()", x.undo(), i);
            due("arc(2,3)", arcOf(x, 2, 3), 22 + i);
        }
    }

    private void undoNone() {
        sentence("lay() without a FAULT and again() leave none to UNDO.");
        TreeFlows x = best(THREE);
        Texts.spell(x, "x");
        due("lay() with a FAULT", x.lay(), -1);
        due("grid(11)", x.grid(11), 1);
        no("again(0) that is not there", x.again(0));
        due("grid(11)", x.grid(11), 1);
        yes("image(0)", x.image(0));
        due("grid(11) behind image()", x.grid(11), 1);
        yes("again(0)", x.again(0));
        due("grid(11)", x.grid(11), 0);
        due("undo()", x.undo(), -1);
        x.cold();
        due("lay()", x.lay(), 0);
        due("grid(11)", x.grid(11), 0);
        due("undo()", x.undo(), -1);
        x.cold();
        due("undo() of what came behind", x.undo(), 0);
    }

    private void refused() {
        sentence("Refused calls change nothing, unless it is said.");
        TreeFlows x = best(THREE);
        x.image(0);
        Texts.spell(x, "cold;");
        String ahead = seen(x);
        no("any", x.pivot() != -1 || x.pivots(9) != 0 || x.pivots(0) != -1 || x.pivots(61) != -1);
        no("any", x.rule(3) || x.rule(-1) || x.shift(0, 0, 1) || x.shift(0, 3, 1) || x.shift(0, 1, 94));
        no("any", x.shift(1, 2, 94) || x.shift(0, 1, 0) || x.shift(0, 1, 100));
        no("any", x.block(0, true) || x.block(3, false) || x.block(-1, true));
        no("any", x.widen(0, 5) || x.widen(0, 100) || x.widen(0, -1) || x.widen(3, 1));
        no("any", x.charge(0, 2) || x.charge(0, 100) || x.charge(0, -100) || x.charge(3, 1));
        no("any", x.image(3) || x.image(-1) || x.again(1) || x.again(2) || x.again(3) || x.again(-1));
        due("all", seen(x), ahead);
        due("THE TEXT", x.grid(10), 5);
        due("work() of it", x.work(), 1);
        x = told(" ".repeat(398));
        due("spell()", x.spell(-1L), -1);
        due("THE TEXT", x.grid(10), 398);
        due("undo()", x.undo(), -1);
        due("lay()", x.lay(), 0);
    }
}
