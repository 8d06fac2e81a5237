import java.util.NoSuchElementException;

/** Each promise of the document by itself: ordinary inputs, the edges, wrong inputs; answers worked out by hand. */
public final class PromisesTest {
    /** Cold: loans 6, 0, -6. By first: 1 enters (101 leaves, 0), 0 enters (1 leaves, 4), 2 enters (102 leaves, 2). */
    private static final String THREE = "points 3;arc 0 1 5 2;arc 1 2 4 3;arc 0 2 3 9;supply 0 6;want 2 6;";
    /** Two arcs each way between two points, nothing supplied: arc 0 and arc 1 make a ring of cost -4. */
    private static final String RING = "arc 0 1 7 1;gain 1 0 5 5;";

    private int wrong;
    private int checked;
    private String promise = "";

    public static void main(String[] args) {
        PromisesTest test = new PromisesTest();
        test.texts();
        test.acts();
        test.whatThereIs();
        test.whatIsBest();
        test.kept();
        test.farNumbers();
        System.out.println(test.checked + " answers looked at, " + test.wrong + " wrong");
        if (test.wrong != 0) {
            System.exit(1);
        }
    }

    private void texts() {
        newObject();
        spell();
        lay();
        faultOfForm();
        faultOfNumbers();
        faultOfPointsAndSums();
    }

    private void acts() {
        pivot();
        pivotFull();
        pivots();
        rule();
        shift();
        block();
        widen();
        charge();
        cold();
        work();
        workFaults();
        undo();
    }

    private void whatThereIs() {
        grid();
        arc();
        point();
        thread();
        path();
        next();
        past();
        bill();
        ledger();
        wide();
        trip();
        apart();
    }

    private void whatIsBest() {
        span();
        least();
        lack();
        cut();
        steps();
        worth();
        toll();
    }

    private void kept() {
        image();
        again();
    }

    // ---- helpers

    private void due(String call, long got, long want) {
        checked++;
        if (got != want) {
            wrong++;
            System.out.println(promise + ": " + call + " answered " + got + ", due is " + want);
        }
    }

    private void yes(String call, boolean got) {
        due(call, got ? 1 : 0, 1);
    }

    private void no(String call, boolean got) {
        due(call, got ? 1 : 0, 0);
    }

    private static TreeFlows laid(String text) {
        TreeFlows x = new TreeFlows();
        Texts.spell(x, text);
        x.lay();
        return x;
    }

    private static TreeFlows best(String text) {
        TreeFlows x = laid(text);
        x.pivots(60);
        return x;
    }

    private static int worked(TreeFlows x, String orders) {
        Texts.spell(x, orders);
        return x.work();
    }

    private void dueFault(String text, int kind, int place) {
        TreeFlows x = new TreeFlows();
        Texts.spell(x, text);
        due("lay() of " + text, x.lay(), kind == 0 ? x.grid(1) : -1);
        due("fault(false) of " + text, x.fault(false), kind);
        due("fault(true) of " + text, x.fault(true), place);
        due("grid(10) behind " + text, x.grid(10), 0);
    }

    private void dueOrderFault(String text, int kind, int place) {
        TreeFlows x = laid(THREE);
        due("work() of " + text, worked(x, text), -1);
        due("fault(false) of " + text, x.fault(false), kind);
        due("fault(true) of " + text, x.fault(true), place);
        due("grid(10) behind " + text, x.grid(10), 0);
        due("grid(11) behind " + text, x.grid(11), 0);
    }

    private void dueFlows(TreeFlows x, int... flows) {
        for (int a = 0; a < flows.length; a++) {
            due("arc(" + a + ",4)", x.arc(a, 4), flows[a]);
        }
    }

    private void dueLoans(TreeFlows x, int... loans) {
        for (int p = 0; p < loans.length; p++) {
            due("point(" + p + ",6)", x.point(p, 6), loans[p]);
        }
    }

    private void dueNoArc(TreeFlows x, int arc, int what) {
        boolean thrown = false;
        try {
            x.arc(arc, what);
        } catch (NoSuchElementException none) {
            thrown = true;
        }
        yes("arc(" + arc + "," + what + ") throws", thrown);
    }

    private void dueNoPoint(TreeFlows x, int point, int what) {
        boolean thrown = false;
        try {
            x.point(point, what);
        } catch (NoSuchElementException none) {
            thrown = true;
        }
        yes("point(" + point + "," + what + ") throws", thrown);
    }

    /** Numbers far outside are refused like those just outside. */
    private void farNumbers() {
        promise = "far numbers";
        TreeFlows x = best(THREE);
        x.image(0);
        for (int far : new int[] {Integer.MIN_VALUE, Integer.MIN_VALUE + 9, -100000, 100000, Integer.MAX_VALUE}) {
            due("pivots", x.pivots(far), -1);
            no("rule", x.rule(far));
            no("shift", x.shift(far, 0, 1) || x.shift(0, far, 1) || x.shift(0, 1, far));
            no("block", x.block(far, false) || x.block(far, true));
            no("widen", x.widen(far, 1) || x.widen(0, far));
            no("charge", x.charge(far, 1) || x.charge(0, far));
            due("grid", x.grid(far), -1);
            dueNoArc(x, far, 0);
            dueNoArc(x, 0, far);
            dueNoPoint(x, far, 0);
            dueNoPoint(x, 0, far);
            due("thread", x.thread(far), -1);
            due("path", x.path(far, 0, 0), -1000);
            due("path", x.path(0, far, 0), -1000);
            due("path", x.path(0, 1, far), -1000);
            due("past", x.past(far, 0), -1);
            due("past", x.past(0, far), -1);
            due("ledger", x.ledger(far, false), -1000);
            due("wide", x.wide(far, 0), -1);
            due("wide", x.wide(0, far), -1);
            due("trip", x.trip(far, 0), -1);
            due("trip", x.trip(0, far), -1);
            due("trip", x.trip(-1, far), -1);
            due("apart", x.apart(far), -1);
            due("span", x.span(far, true), -1000);
            due("steps", x.steps(far), -1);
            due("worth", x.worth(far, 0), -1000000);
            due("worth", x.worth(0, far), -1000000);
            due("toll", x.toll(far, 0), -1000000);
            due("toll", x.toll(0, far), -1000000);
            no("image", x.image(far));
            no("again", x.again(far));
        }
        due("grid(11)", x.grid(11), 1);
        x.cold();
        due("next", x.next(Integer.MAX_VALUE), -1);
        due("next", x.next(Integer.MIN_VALUE), -1);
    }

    // ---- texts

    private void newObject() {
        promise = "1 a new object";
        TreeFlows x = new TreeFlows();
        int[] grid = {2, 0, 0, 1, 0, 0, 0, 0, -1, 0, 0, 0, -1};
        for (int w = 0; w < grid.length; w++) {
            due("grid(" + w + ")", x.grid(w), grid[w]);
        }
        due("NONE", TreeFlows.NONE, -1);
        due("point(1,1)", x.point(1, 1), -10000);
        due("point(1,2)", x.point(1, 2), 2);
        due("point(1,3)", x.point(1, 3), 101);
        due("fault(false)", x.fault(false), 0);
        due("fault(true)", x.fault(true), -1);
        due("least()", x.least(), 0);
        dueNoArc(x, 0, 0);
    }

    private void spell() {
        promise = "2 spell";
        TreeFlows x = new TreeFlows();
        due("spell(0)", x.spell(0), 0);
        due("spell(a)", x.spell((long) 'a' << 56), 1);
        due("spell(a 0 b)", x.spell((long) 'a' << 56 | (long) 'b' << 40), 2);
        due("spell(0 b)", x.spell((long) 'b' << 48), 2);
        due("spell(-1)", x.spell(-1L), 10);
        for (int i = 0; i < 48; i++) {
            x.spell(Texts.eight("        "));
        }
        due("grid(10)", x.grid(10), 394);
        due("spell(8) at 394", x.spell(-1L), -1);
        due("spell(7) at 394", x.spell(-256L), -1);
        due("grid(10) still", x.grid(10), 394);
        due("spell(6) at 394", x.spell(Texts.eight("      ")), 400);
        due("spell(1) at 400", x.spell(Texts.eight(" ")), -1);
        due("spell(0) at 400", x.spell(0), 400);
    }

    private void lay() {
        promise = "3 lay";
        TreeFlows x = new TreeFlows();
        Texts.spell(x, "points 3 ; arc 0 1 5 2\n;gain 1 2 04 3;supply0 6;want 2 6;steep;block 1;block 1;");
        due("lay()", x.lay(), 2);
        due("grid(0)", x.grid(0), 3);
        due("grid(2)", x.grid(2), 1);
        due("grid(10)", x.grid(10), 0);
        due("arc(1,2)", x.arc(1, 2), 4);
        due("arc(1,3)", x.arc(1, 3), -3);
        due("arc(1,5)", x.arc(1, 5), 3);
        due("point(2,0)", x.point(2, 0), -6);
        dueLoans(x, 6, 0, -6);
        Texts.spell(x, "points 4;supply 0 9;points 5;want 0 9;supply 0 2;want 4 2;round;");
        due("lay() again", x.lay(), 0);
        due("grid(0)", x.grid(0), 5);
        due("grid(2)", x.grid(2), 2);
        due("point(0,0)", x.point(0, 0), 2);
        due("lay() of nothing", x.lay(), 0);
        due("grid(0)", x.grid(0), 2);
        due("grid(2)", x.grid(2), 0);
        due("point(0,0)", x.point(0, 0), 0);
        x = laid(THREE);
        x.pivots(2);
        Texts.spell(x, "points 2;arc 0 1 1 1;x");
        due("lay() with a fault", x.lay(), -1);
        due("grid(1) stays", x.grid(1), 3);
        due("grid(5) stays", x.grid(5), 2);
        due("grid(11) stays", x.grid(11), 1);
        Texts.spell(x, THREE);
        due("lay()", x.lay(), 3);
        due("grid(5)", x.grid(5), 0);
        due("grid(8)", x.grid(8), -1);
        due("grid(11)", x.grid(11), 0);
        due("fault(false)", x.fault(false), 0);
    }

    private void faultOfForm() {
        promise = "4 fault 1";
        dueFault("", 0, -1);
        dueFault(" \n ", 0, -1);
        dueFault("first;", 0, -1);
        dueFault("first", 1, 5);
        dueFault("first ", 1, 6);
        dueFault(";", 1, 0);
        dueFault("first;;", 1, 6);
        dueFault("firststeep;", 1, 0);
        dueFault("first steep;", 1, 6);
        dueFault("firstz;", 1, 0);
        dueFault("first`;", 1, 5);
        dueFault("first{;", 1, 5);
        dueFault("arc 0 1 5 /;", 1, 10);
        dueFault("arc 0 1 5 :;", 1, 10);
        dueFault("pivot 1;", 1, 0);
        dueFault("arc 0 1 5", 1, 9);
        dueFault("arc 0 1 5;", 1, 9);
        dueFault("arc 0 1 5 2 2;", 1, 12);
        dueFault("arc 0 1 100 2;", 1, 8);
        dueFault("arc 0 1 5 2;Arc 1 0 5 2;", 1, 12);
        dueFault("arc 0 1\t5 2;", 1, 7);
        dueFault("arc 0 1 -5 2;", 1, 8);
        dueFault("arc arc $", 1, 4);
        dueFault("arc0 1 5 2;", 0, -1);
        dueFault("arc0 1 5 2;points 9;x", 1, 20);
        dueFault("points 7;supply 6 1;want 0\n1;", 0, -1);
    }

    private void faultOfNumbers() {
        promise = "4 fault 2";
        dueFault("points 8;", 2, 7);
        dueFault("points 1;", 2, 7);
        dueFault("points 2;points 0;", 2, 16);
        dueFault("arc 7 1 1 1;", 2, 4);
        dueFault("arc 0 7 1 1;", 2, 6);
        dueFault("arc 7 7 1 1;", 2, 4);
        dueFault("gain 1 1 1 1;", 2, 7);
        dueFault("arc 0 1 1 1;block 0;block 1;", 2, 26);
        dueFault("block 0;arc 0 1 1 1;", 2, 6);
        dueFault("want 7 1;", 2, 5);
        dueFault("supply 6 1;points 8;", 2, 18);
        StringBuilder many = new StringBuilder();
        for (int i = 0; i < 14; i++) {
            many.append(i % 2 == 0 ? "arc 0 1 1 1;" : "gain 1 0 1;".replace(";", " 1;"));
        }
        dueFault(many.toString(), 0, -1);
        dueFault(many + "first;gain 9 0 1 1;", 2, many.length() + 6);
        dueFault(many + "block 14;arc 0 1 1 1;", 2, many.length() + 6);
    }

    private void faultOfPointsAndSums() {
        promise = "4 fault 3 and 4";
        dueFault("arc 0 2 1 1;", 3, 6);
        dueFault("supply 0 1;arc 3 1 1 1;", 3, 15);
        dueFault("points 4;arc 0 3 1 1;points 3;", 3, 15);
        dueFault("arc 0 3 1 1;points 4;", 0, -1);
        dueFault("supply 4 3;supply 4 0;", 3, 7);
        dueFault("want 0 1;supply 2 1;", 3, 16);
        dueFault("supply 0 5;", 4, 11);
        dueFault("supply 0 5;want 1 4;\n", 4, 21);
        dueFault("supply 0 5;want 1 5;want 0 5;supply 1 5;", 0, -1);
        dueFault("supply 0 5;supply 0 0;", 0, -1);
    }

    // ---- acts

    private void pivot() {
        promise = "5 pivot";
        TreeFlows x = laid(THREE);
        due("pivot()", x.pivot(), 1);
        dueFlows(x, 0, 0, 0);
        due("arc(1,5)", x.arc(1, 5), 2);
        due("point(1,3)", x.point(1, 3), 1);
        due("point(1,2)", x.point(1, 2), 2);
        due("point(1,1)", x.point(1, 1), 9997);
        due("pivot()", x.pivot(), 0);
        dueFlows(x, 4, 4, 0);
        dueLoans(x, 2, 0, -2);
        due("arc(1,5)", x.arc(1, 5), 1);
        due("point(1,2)", x.point(1, 2), 0);
        due("pivot()", x.pivot(), 2);
        dueFlows(x, 4, 4, 2);
        dueLoans(x, 0, 0, 0);
        due("point(2,1)", x.point(2, 1), -9991);
        due("pivot()", x.pivot(), -1);
        due("grid(11)", x.grid(11), 3);
    }

    private void pivotFull() {
        promise = "5 pivot of a full arc, and of one that leaves at once";
        TreeFlows x = laid(RING);
        due("pivot() of arc 1", x.pivot(), 1);
        // Arc 1 goes along from 1 to 0; the loan of 1 has no room backwards, so the tree turns first.
        due("past(0,1)", x.past(0, 1), 101);
        due("pivot() of arc 0", x.pivot(), 0);
        due("past(0,1)", x.past(0, 1), 1);
        due("past(0,2)", x.past(0, 2), 5);
        dueFlows(x, 5, 5);
        due("charge(1,4)", x.charge(1, 4) ? 1 : 0, 1);
        due("next(0)", x.next(0), 1);
        due("pivot() of the full arc", x.pivot(), 1);
        due("past(0,2)", x.past(0, 2), 5);
        // Both come to 0; the last of the cycle is arc 0, behind arc 1.
        due("past(0,1)", x.past(0, 1), 0);
        dueFlows(x, 0, 0);
        due("arc(0,5)", x.arc(0, 5), 0);
        due("arc(1,5)", x.arc(1, 5), 2);
        x = laid("supply 0 9;want 1 9;arc 0 1 3 1;");
        due("pivot() that leaves at once", x.pivot(), 0);
        due("past(0,1)", x.past(0, 1), 0);
        due("arc(0,5)", x.arc(0, 5), 1);
        dueLoans(x, 6, -6);
        due("pivot()", x.pivot(), -1);
    }

    private void pivots() {
        promise = "6 pivots";
        TreeFlows x = laid(THREE);
        due("pivots(0)", x.pivots(0), -1);
        due("pivots(61)", x.pivots(61), -1);
        due("pivots(-1)", x.pivots(-1), -1);
        due("grid(5)", x.grid(5), 0);
        due("pivots(2)", x.pivots(2), 2);
        due("grid(5)", x.grid(5), 2);
        due("grid(11)", x.grid(11), 1);
        due("pivots(60)", x.pivots(60), 1);
        due("grid(3)", x.grid(3), 1);
        due("pivots(1)", x.pivots(1), 0);
        due("grid(11)", x.grid(11), 2);
    }

    private void rule() {
        promise = "7 rule";
        TreeFlows x = laid("points 3;supply 0 4;want 2 4;arc 0 1 9 1;arc 0 2 9 8;arc 1 2 9 1;arc 0 2 9 7;");
        due("next(0) by first", x.next(0), 1);
        yes("rule(1)", x.rule(1));
        due("grid(2)", x.grid(2), 1);
        // Arc 2 is farthest: 1 less 20000; arcs 1 and 3 are at 8 and 7 less 20000.
        due("next(0) by steep", x.next(0), 2);
        yes("rule(2)", x.rule(2));
        due("pivot() by round", x.pivot(), 1);
        due("next(0) by round", x.next(0), 2);
        yes("rule(0)", x.rule(0));
        yes("rule(0) again", x.rule(0));
        due("grid(11)", x.grid(11), 5);
        no("rule(3)", x.rule(3));
        no("rule(-1)", x.rule(-1));
        due("grid(2)", x.grid(2), 0);
        due("grid(11)", x.grid(11), 5);
        x = laid("supply 0 4;want 1 4;arc 0 1 1 7;arc 0 1 1 7;arc 0 1 1 7;steep;");
        due("steep takes the least of several", x.next(0), 0);
        yes("rule(2)", x.rule(2));
        due("pivot()", x.pivot(), 0);
        due("pivot()", x.pivot(), 1);
        yes("cold", coldDone(x));
        due("round goes on behind a beginning", x.next(0), 2);
        due("pivot()", x.pivot(), 2);
        due("round begins anew behind the last", x.pivot(), 0);
    }

    private static boolean coldDone(TreeFlows x) {
        x.cold();
        return true;
    }

    private void shift() {
        promise = "8 shift";
        TreeFlows x = best(THREE);
        yes("shift(0,2,1)", x.shift(0, 2, 1));
        due("point(0,0)", x.point(0, 0), 7);
        due("point(2,0)", x.point(2, 0), -7);
        // Warm: 4 of 5, 4 of 4 and 2 of 3 are half or more.
        dueFlows(x, 5, 4, 3);
        dueLoans(x, -1, 1, 0);
        due("arc(1,5)", x.arc(1, 5), 1);
        due("grid(7)", x.grid(7), 1);
        due("point(1,2)", x.point(1, 2), 3);
        no("shift(0,0,1)", x.shift(0, 0, 1));
        no("shift(0,3,1)", x.shift(0, 3, 1));
        no("shift(-1,0,1)", x.shift(-1, 0, 1));
        no("shift(0,1,0)", x.shift(0, 1, 0));
        no("shift(0,1,100)", x.shift(0, 1, 100));
        no("shift(0,1,93)", x.shift(0, 1, 93));
        no("shift(1,2,93)", x.shift(1, 2, 93));
        due("grid(11)", x.grid(11), 2);
        yes("shift(0,1,92)", x.shift(0, 1, 92));
        yes("shift(1,2,92)", x.shift(1, 2, 92));
        due("point(0,0)", x.point(0, 0), 99);
        due("point(1,0)", x.point(1, 0), 0);
        due("point(2,0)", x.point(2, 0), -99);
    }

    private void block() {
        promise = "9 block";
        TreeFlows x = best(THREE);
        yes("block(1,false)", x.block(1, false));
        due("arc(1,5)", x.arc(1, 5), 3);
        due("arc(1,7)", x.arc(1, 7), 0);
        dueFlows(x, 5, 0, 3);
        no("block(1,false)", x.block(1, false));
        no("block(0,true)", x.block(0, true));
        no("block(3,false)", x.block(3, false));
        no("block(-1,false)", x.block(-1, false));
        due("grid(7)", x.grid(7), 1);
        yes("block(1,true)", x.block(1, true));
        due("arc(1,5)", x.arc(1, 5), 0);
        dueFlows(x, 5, 0, 3);
        due("grid(7)", x.grid(7), 2);
        due("grid(11)", x.grid(11), 3);
    }

    private void widen() {
        promise = "10 widen";
        TreeFlows x = best(THREE);
        yes("widen(0,9)", x.widen(0, 9));
        due("arc(0,2)", x.arc(0, 2), 9);
        // Twice 4 is below 9.
        dueFlows(x, 0, 4, 3);
        x.undo();
        yes("widen(0,8)", x.widen(0, 8));
        dueFlows(x, 8, 4, 3);
        yes("widen(0,3)", x.widen(0, 3));
        dueFlows(x, 3, 4, 3);
        yes("widen(0,0)", x.widen(0, 0));
        dueFlows(x, 0, 4, 3);
        due("arc(0,5)", x.arc(0, 5), 0);
        yes("widen(1,99)", x.widen(1, 99));
        no("widen(1,99)", x.widen(1, 99));
        no("widen(1,100)", x.widen(1, 100));
        no("widen(1,-1)", x.widen(1, -1));
        no("widen(3,1)", x.widen(3, 1));
        no("widen(-1,1)", x.widen(-1, 1));
        due("grid(7)", x.grid(7), 4);
    }

    private void charge() {
        promise = "11 charge";
        TreeFlows x = best(THREE);
        yes("charge(0,-99)", x.charge(0, -99));
        due("arc(0,3)", x.arc(0, 3), -99);
        due("point(1,1)", x.point(1, 1), -10099);
        dueFlows(x, 4, 4, 2);
        due("arc(0,5)", x.arc(0, 5), 2);
        due("grid(7)", x.grid(7), 0);
        yes("charge(1,99)", x.charge(1, 99));
        due("arc(1,6)", x.arc(1, 6), 99 - 10099 + 9991);
        no("charge(1,99)", x.charge(1, 99));
        no("charge(1,100)", x.charge(1, 100));
        no("charge(1,-100)", x.charge(1, -100));
        no("charge(3,0)", x.charge(3, 0));
        no("charge(-1,0)", x.charge(-1, 0));
        due("grid(11)", x.grid(11), 3);
    }

    private void cold() {
        promise = "12 cold";
        TreeFlows x = best(THREE);
        x.cold();
        dueFlows(x, 0, 0, 0);
        dueLoans(x, 6, 0, -6);
        due("arc(1,5)", x.arc(1, 5), 0);
        due("point(2,1)", x.point(2, 1), 10000);
        due("grid(5)", x.grid(5), 3);
        due("grid(7)", x.grid(7), 1);
        due("grid(8)", x.grid(8), 2);
        due("grid(11)", x.grid(11), 2);
    }

    private void work() {
        promise = "13 work";
        TreeFlows x = laid(THREE);
        due("work() of nothing", x.work(), 0);
        due("grid(11)", x.grid(11), 0);
        due("work()", worked(x, "pivot 60;shift 0 2 1;widen 2 4;charge 0 1;gain 0 5;block 1;open 1;cold;steep;"), 9);
        due("arc(0,3)", x.arc(0, 3), -5);
        due("arc(2,2)", x.arc(2, 2), 4);
        due("point(0,0)", x.point(0, 0), 7);
        due("grid(2)", x.grid(2), 1);
        due("grid(5)", x.grid(5), 3);
        due("grid(7)", x.grid(7), 5);
        due("grid(10)", x.grid(10), 0);
        due("grid(11)", x.grid(11), 1);
        due("undo()", x.undo(), 0);
        due("arc(0,3)", x.arc(0, 3), 2);
        due("grid(5)", x.grid(5), 0);
        due("work() till refused", worked(x, "round;shift 1 1 5;cold;"), 1);
        due("grid(2)", x.grid(2), 2);
        due("grid(7)", x.grid(7), 0);
        due("fault(false)", x.fault(false), 0);
        due("work() till none offers", worked(x, "pivot 60;pivot 1;cold;"), 1);
        due("work() refused at once", worked(x, "block 13;cold;"), 0);
        due("grid(11)", x.grid(11), 2);
        due("grid(10)", x.grid(10), 0);
        due("work() refused at once", worked(x, "shift 0 6 1;"), 0);
        due("work() refused at once", worked(x, "open 0;"), 0);
        due("work() refused at once", worked(x, "charge 0 2;"), 0);
        due("work() refused at once", worked(x, "widen 0 5;"), 0);
        due("work() of 80 lines", worked(x, "cold;".repeat(80)), 80);
        due("grid(7)", x.grid(7), 80);
        due("work() of 80 lines, one short", worked(x, "cold;".repeat(79) + "cold"), -1);
        due("fault(true)", x.fault(true), 399);
    }

    private void workFaults() {
        promise = "13 work with a fault";
        dueOrderFault("cold;pivot 0;", 2, 11);
        dueOrderFault("pivot 61;", 2, 6);
        dueOrderFault("shift 0 1 0;", 2, 10);
        dueOrderFault("shift 7 1 0;", 2, 6);
        dueOrderFault("shift 0 7 1;", 2, 8);
        dueOrderFault("block 14;", 2, 6);
        dueOrderFault("open 14;", 2, 5);
        dueOrderFault("widen 14 1;", 2, 6);
        dueOrderFault("charge 14 1;", 2, 7);
        dueOrderFault("gain 14 1;", 2, 5);
        dueOrderFault("cold;gain 0 1 1 1;", 1, 14);
        dueOrderFault("points 3;", 1, 0);
        dueOrderFault("pivot 0;cold", 1, 12);
        dueOrderFault("pivot 0;hold 1;", 1, 8);
        TreeFlows x = laid(THREE);
        due("work()", worked(x, "cold;pivot 0;"), -1);
        due("grid(7)", x.grid(7), 0);
        due("work()", worked(x, "cold;"), 1);
        due("fault(false)", x.fault(false), 0);
        due("fault(true)", x.fault(true), -1);
    }

    private void undo() {
        promise = "14 undo";
        TreeFlows x = laid(THREE);
        due("undo() of nothing", x.undo(), -1);
        x.pivot();
        x.pivot();
        x.rule(2);
        x.shift(0, 2, 1);
        x.block(0, false);
        x.widen(1, 9);
        x.charge(2, -3);
        x.cold();
        due("grid(11)", x.grid(11), 8);
        due("undo() of cold()", x.undo(), 7);
        due("grid(7)", x.grid(7), 3);
        due("undo() of charge()", x.undo(), 6);
        due("arc(2,3)", x.arc(2, 3), 9);
        due("undo() of widen()", x.undo(), 5);
        due("arc(1,2)", x.arc(1, 2), 4);
        due("undo() of block()", x.undo(), 4);
        due("arc(0,5)", x.arc(0, 5), 1);
        due("undo() of shift()", x.undo(), 3);
        due("point(2,0)", x.point(2, 0), -6);
        dueFlows(x, 4, 4, 0);
        due("grid(7)", x.grid(7), 0);
        due("undo() of rule()", x.undo(), 2);
        due("grid(2)", x.grid(2), 0);
        due("undo() of pivot()", x.undo(), 1);
        due("grid(5)", x.grid(5), 1);
        due("grid(8)", x.grid(8), 1);
        due("past(1,0)", x.past(1, 0), -1);
        due("next(0)", x.next(0), 0);
        for (int i = 1; i <= 14; i++) {
            x.charge(0, 50 + i);
        }
        due("grid(11)", x.grid(11), 10);
        no("a refused act", x.charge(0, 64));
        for (int i = 9; i >= 0; i--) {
            due("undo()", x.undo(), i);
        }
        due("undo()", x.undo(), -1);
        due("arc(0,3)", x.arc(0, 3), 54);
        x.cold();
        Texts.spell(x, "x");
        due("work() with a fault", x.work(), -1);
        Texts.spell(x, "cold");
        due("undo()", x.undo(), 0);
        due("grid(10) is not undone", x.grid(10), 4);
        due("fault(false) is not undone", x.fault(false), 1);
        x.pivots(9);
        x.image(0);
        x.again(0);
        due("undo() behind again()", x.undo(), -1);
    }

    // ---- what there is

    private void grid() {
        promise = "15 grid";
        TreeFlows x = laid(THREE);
        int[] begun = {3, 3, 0, 0, 12, 0, 0, 0, -1, 2, 0, 0, -1};
        for (int w = 0; w < begun.length; w++) {
            due("grid(" + w + ")", x.grid(w), begun[w]);
        }
        x.pivots(3);
        x.rule(2);
        x.cold();
        x.spell(Texts.eight("abc"));
        int[] then = {3, 3, 2, 0, 12, 3, 1, 1, 2, 2, 3, 3, -1};
        for (int w = 0; w < then.length; w++) {
            due("grid(" + w + ")", x.grid(w), then[w]);
        }
        due("grid(-1)", x.grid(-1), -1);
        due("grid(MIN)", x.grid(Integer.MIN_VALUE), -1);
    }

    private void arc() {
        promise = "16 arc";
        TreeFlows x = laid(THREE);
        int[] begun = {1, 2, 4, 3, 0, 0, -19997, 1};
        for (int w = 0; w < begun.length; w++) {
            due("arc(1," + w + ")", x.arc(1, w), begun[w]);
        }
        x.pivots(60);
        int[] then = {1, 2, 4, 3, 4, 1, -4, 0};
        for (int w = 0; w < then.length; w++) {
            due("arc(1," + w + ")", x.arc(1, w), then[w]);
        }
        due("arc(0,5)", x.arc(0, 5), 2);
        due("arc(0,6)", x.arc(0, 6), 0);
        x.block(0, false);
        due("arc(0,5)", x.arc(0, 5), 3);
        x.charge(1, 99);
        x = laid("supply 0 1;want 1 1;arc 0 1 0 1;");
        due("arc(0,6) without a bound", x.arc(0, 6), -19999);
        due("arc(0,7) without a bound", x.arc(0, 7), 0);
        dueNoArc(x, 0, 8);
        dueNoArc(x, 0, -1);
        dueNoArc(x, 1, 0);
        dueNoArc(x, -1, 0);
        dueNoArc(x, Integer.MIN_VALUE, 0);
    }

    private void point() {
        promise = "17 point";
        TreeFlows x = laid(THREE);
        int[] want = {-6, 10000, 3, 102, 1, 1, -6};
        for (int w = 0; w < want.length; w++) {
            due("point(2," + w + ")", x.point(2, w), want[w]);
        }
        x.pivots(60);
        int[] first = {6, -10000, 3, 100, 1, 3, 0};
        int[] last = {-6, -9991, 0, 2, 2, 1, 0};
        for (int w = 0; w < first.length; w++) {
            due("point(0," + w + ")", x.point(0, w), first[w]);
            due("point(2," + w + ")", x.point(2, w), last[w]);
        }
        dueNoPoint(x, 3, 0);
        dueNoPoint(x, -1, 0);
        dueNoPoint(x, 0, 7);
        dueNoPoint(x, 0, -1);
    }

    /** A tree of depth: 3 hangs by its loan, 1 by 3, 0 and 2 by 1, 4 by 2. */
    private static TreeFlows deep() {
        TreeFlows x = laid("points 5;supply 3 9;want 4 2;want 0 4;want 1 3;"
            + "arc 3 1 20 1;arc 1 0 20 1;arc 1 2 20 1;arc 2 4 20 1;");
        x.pivots(60);
        return x;
    }

    private void thread() {
        promise = "18 thread";
        TreeFlows x = deep();
        int[] order = {3, 1, 0, 2, 4, -1};
        for (int k = 0; k < order.length; k++) {
            due("thread(" + k + ")", x.thread(k), order[k]);
        }
        due("thread(-1)", x.thread(-1), -1);
        due("point(1,5)", x.point(1, 5), 4);
        due("point(4,4)", x.point(4, 4), 4);
        x = laid("points 3;");
        due("thread(0)", x.thread(0), 0);
        due("thread(2)", x.thread(2), 2);
        due("thread(3)", x.thread(3), -1);
    }

    private void path() {
        promise = "19 path";
        TreeFlows x = deep();
        dueFlows(x, 9, 4, 2, 2);
        due("path(0,4,0)", x.path(0, 4, 0), 3);
        due("path(0,4,1)", x.path(0, 4, 1), 4);
        due("path(4,0,1)", x.path(4, 0, 1), 2);
        due("path(0,4,2)", x.path(0, 4, 2), 1);
        due("path(4,0,2)", x.path(4, 0, 2), -1);
        due("path(0,4,10)", x.path(0, 4, 10), 1);
        due("path(0,4,11)", x.path(0, 4, 11), 2);
        due("path(0,4,12)", x.path(0, 4, 12), 3);
        due("path(0,4,13)", x.path(0, 4, 13), -1000);
        due("path(0,4,3)", x.path(0, 4, 3), -1000);
        due("path(0,4,9)", x.path(0, 4, 9), -1000);
        due("path(0,4,-1)", x.path(0, 4, -1), -1000);
        due("path(0,0,0)", x.path(0, 0, 0), -1000);
        due("path(0,5,0)", x.path(0, 5, 0), -1000);
        due("path(-1,0,0)", x.path(-1, 0, 0), -1000);
        x = laid(THREE);
        due("path(0,2,0)", x.path(0, 2, 0), 2);
        due("path(0,2,1) without a bound", x.path(0, 2, 1), -1);
        due("path(2,0,1)", x.path(2, 0, 1), 6);
        due("path(0,1,1)", x.path(0, 1, 1), 0);
        due("path(0,2,2)", x.path(0, 2, 2), 20000);
        due("path(0,2,10)", x.path(0, 2, 10), 100);
        due("path(0,2,11)", x.path(0, 2, 11), 102);
    }

    private void next() {
        promise = "20 next";
        TreeFlows x = laid(THREE);
        x.pivot();
        int[] want = {0, 1, 4, 3, 4};
        for (int w = 0; w < want.length; w++) {
            due("next(" + w + ")", x.next(w), want[w]);
        }
        int[] cycle = {100, 0, 1, 102, -1};
        for (int k = 0; k < cycle.length; k++) {
            due("next(" + (10 + k) + ")", x.next(10 + k), cycle[k]);
        }
        due("next(5)", x.next(5), -1);
        due("next(9)", x.next(9), -1);
        due("next(-1)", x.next(-1), -1);
        due("grid(5)", x.grid(5), 1);
        x.pivots(60);
        due("next(0) at the best", x.next(0), -1);
        due("next(4) at the best", x.next(4), -1);
        x.charge(1, 60);
        // Arc 1 is full and goes backwards: from the join 0 down to 2, along it to 1, up to 0.
        int[] full = {1, 2, 1, 0, 3};
        for (int w = 0; w < full.length; w++) {
            due("next(" + w + ") of a full one", x.next(w), full[w]);
        }
        due("next(10)", x.next(10), 2);
        due("next(11)", x.next(11), 1);
        due("next(12)", x.next(12), 0);
    }

    private void past() {
        promise = "21 past";
        TreeFlows x = laid(THREE);
        due("past(0,0)", x.past(0, 0), -1);
        x.pivots(60);
        int[][] want = {{2, 102, 2}, {0, 1, 4}, {1, 101, 0}};
        for (int k = 0; k < 3; k++) {
            for (int w = 0; w < 3; w++) {
                due("past(" + k + "," + w + ")", x.past(k, w), want[k][w]);
            }
        }
        due("past(3,0)", x.past(3, 0), -1);
        due("past(0,3)", x.past(0, 3), -1);
        due("past(0,-1)", x.past(0, -1), -1);
        due("past(-1,0)", x.past(-1, 0), -1);
        for (int i = 0; i < 4; i++) {
            x.cold();
            x.pivots(60);
        }
        due("grid(5)", x.grid(5), 15);
        due("past(11,0)", x.past(11, 0), 1);
        due("past(11,1)", x.past(11, 1), 101);
        due("past(9,1)", x.past(9, 1), 102);
        due("past(12,0)", x.past(12, 0), -1);
    }

    private void bill() {
        promise = "22 bill";
        TreeFlows x = best(THREE);
        due("bill(1)", x.bill(1), 38);
        due("bill(-2)", x.bill(-2), -76);
        due("bill(0)", x.bill(0), 0);
        due("bill(56512727)", x.bill(56512727), 2147483626);
        due("bill(56512728)", x.bill(56512728), Integer.MIN_VALUE);
        due("bill(-56512727)", x.bill(-56512727), -2147483626);
        due("bill(-56512728)", x.bill(-56512728), Integer.MIN_VALUE);
        due("bill(MIN)", x.bill(Integer.MIN_VALUE), Integer.MIN_VALUE);
        x = laid(THREE);
        due("bill(MAX) of no flow", x.bill(Integer.MAX_VALUE), 0);
    }

    private void ledger() {
        promise = "23 ledger";
        TreeFlows x = best(THREE);
        due("ledger(-1,false)", x.ledger(-1, false), 3);
        due("ledger(-1,true)", x.ledger(-1, true), 3);
        x.charge(2, 2);
        due("ledger(-1,false)", x.ledger(-1, false), 2);
        due("ledger(0,false)", x.ledger(0, false), 2);
        due("ledger(0,true)", x.ledger(0, true), 6);
        due("ledger(1,false)", x.ledger(1, false), 3);
        due("ledger(1,true)", x.ledger(1, true), 4);
        due("ledger(2,false)", x.ledger(2, false), -1000);
        due("ledger(-2,false)", x.ledger(-2, false), -1000);
        x.charge(1, -99);
        due("ledger(0,false)", x.ledger(0, false), -99);
        x.cold();
        due("ledger(-1,false)", x.ledger(-1, false), 0);
        due("ledger(0,false)", x.ledger(0, false), -1000);
    }

    private void wide() {
        promise = "24 wide";
        TreeFlows x = best(THREE);
        // Rooms: 0 to 1 1, 1 to 0 4, 1 to 2 0, 2 to 1 4, 0 to 2 1, 2 to 0 2.
        due("wide(0,1)", x.wide(0, 1), 1);
        due("wide(1,2)", x.wide(1, 2), 1);
        due("wide(2,0)", x.wide(2, 0), 4);
        due("wide(2,1)", x.wide(2, 1), 4);
        due("wide(0,0)", x.wide(0, 0), -1);
        due("wide(0,3)", x.wide(0, 3), -1);
        due("wide(-1,0)", x.wide(-1, 0), -1);
        x = laid("points 3;arc 0 1 5 1;arc 0 1 8 1;arc 1 2 9 1;block 2;");
        due("wide(0,1)", x.wide(0, 1), 8);
        due("wide(0,2)", x.wide(0, 2), 0);
        due("wide(1,0)", x.wide(1, 0), 0);
    }

    private void trip() {
        promise = "25 trip";
        TreeFlows x = best(THREE);
        due("trip(-1,0)", x.trip(-1, 0), 2);
        due("trip(0,0)", x.trip(0, 0), 4);
        due("trip(0,1)", x.trip(0, 1), 2);
        due("trip(0,10)", x.trip(0, 10), 0);
        due("trip(0,11)", x.trip(0, 11), 1);
        due("trip(0,12)", x.trip(0, 12), -1);
        due("trip(1,0)", x.trip(1, 0), 2);
        due("trip(1,1)", x.trip(1, 1), 1);
        due("trip(1,10)", x.trip(1, 10), 2);
        due("trip(2,0)", x.trip(2, 0), -1);
        due("trip(-1,1)", x.trip(-1, 1), -1);
        due("trip(-2,0)", x.trip(-2, 0), -1);
        due("trip(0,2)", x.trip(0, 2), -1);
        due("trip(0,9)", x.trip(0, 9), -1);
        due("trip(0,-1)", x.trip(0, -1), -1);
        // From 0 to 1, on to 2 and back to 1: the ring of arcs 1 and 2 comes first, without arc 0.
        x = best("points 4;supply 0 3;want 3 3;arc 0 1 9 1;gain 1 2 5 9;arc 2 1 5 1;arc 1 3 9 1;");
        dueFlows(x, 3, 5, 5, 3);
        due("trip(-1,0)", x.trip(-1, 0), 2);
        due("trip(0,0)", x.trip(0, 0), 5);
        due("trip(0,1)", x.trip(0, 1), 2);
        due("trip(0,10)", x.trip(0, 10), 1);
        due("trip(0,11)", x.trip(0, 11), 2);
        due("trip(1,0)", x.trip(1, 0), 3);
        due("trip(1,10)", x.trip(1, 10), 0);
        due("trip(1,11)", x.trip(1, 11), 3);
        x = best(RING);
        due("trip(-1,0) of a ring", x.trip(-1, 0), 1);
        due("trip(0,0) of a ring", x.trip(0, 0), 5);
        due("trip(0,10) of a ring", x.trip(0, 10), 0);
        due("trip(0,11) of a ring", x.trip(0, 11), 1);
        x = laid(THREE);
        due("trip(-1,0) of no flow", x.trip(-1, 0), 0);
    }

    private void apart() {
        promise = "26 apart";
        TreeFlows x = laid(THREE);
        due("apart(0)", x.apart(0), -1);
        x.image(0);
        due("apart(0)", x.apart(0), 0);
        x.pivots(2);
        due("apart(0)", x.apart(0), 2);
        x.image(1);
        x.pivots(2);
        due("apart(0)", x.apart(0), 3);
        due("apart(1)", x.apart(1), 1);
        x.lay();
        due("apart(0)", x.apart(0), 0);
        due("apart(1)", x.apart(1), 2);
        due("apart(2)", x.apart(2), -1);
        due("apart(3)", x.apart(3), -1);
        due("apart(-1)", x.apart(-1), -1);
    }

    // ---- what is best

    private void span() {
        promise = "27 span";
        TreeFlows x = laid(THREE);
        due("span(0,false) not at the best", x.span(0, false), -1000);
        x.pivots(60);
        // Arcs 0 and 2 are in the tree, arc 1 is full: 2 + 3 - 9 is 0 at the most.
        due("span(0,false)", x.span(0, false), -99);
        due("span(0,true)", x.span(0, true), 6);
        due("span(1,false)", x.span(1, false), -99);
        due("span(1,true)", x.span(1, true), 7);
        due("span(2,false)", x.span(2, false), 5);
        due("span(2,true)", x.span(2, true), 99);
        due("span(3,true)", x.span(3, true), -1000);
        due("span(-1,true)", x.span(-1, true), -1000);
        x = best("points 3;supply 0 2;want 2 2;arc 0 1 5 2;arc 1 2 4 3;arc 0 2 3 9;");
        // Arc 2 stays empty down to 5; a blocked one may cost anything.
        due("span(2,false)", x.span(2, false), 5);
        due("span(2,true)", x.span(2, true), 99);
        due("span(0,true)", x.span(0, true), 6);
        x.block(2, false);
        x.pivots(60);
        due("span(2,false)", x.span(2, false), -99);
        due("span(2,true)", x.span(2, true), 99);
    }

    private void least() {
        promise = "28 least";
        TreeFlows x = laid(THREE);
        due("least()", x.least(), 38);
        due("grid(5)", x.grid(5), 0);
        x.pivots(60);
        due("least()", x.least(), 38);
        x.shift(0, 2, 1);
        due("least()", x.least(), 47);
        x.shift(0, 2, 1);
        due("least() without a plan", x.least(), -1000000);
        due("least() of a ring", laid(RING).least(), -20);
        due("least() of a blocked ring", laid(RING + "block 0;").least(), 0);
    }

    private void lack() {
        promise = "29 lack";
        TreeFlows x = laid(THREE);
        due("lack()", x.lack(), 0);
        x.shift(0, 2, 4);
        due("lack()", x.lack(), 6);
        x.block(2, false);
        due("lack()", x.lack(), 12);
        due("grid(4)", x.grid(4) >= 12 ? 1 : 0, 1);
    }

    private void cut() {
        promise = "30 cut";
        TreeFlows x = laid(THREE);
        due("cut()", x.cut(), 0);
        x.shift(0, 2, 4);
        // 10 less what leads out: 8 of {0}, 7 of {0, 1}.
        due("cut()", x.cut(), 3);
        x.widen(1, 5);
        due("cut() of the fewest points", x.cut(), 1);
        x = laid("points 4;supply 1 3;supply 0 3;want 2 3;want 3 3;");
        due("cut() of two", x.cut(), 3);
        x = laid("points 4;supply 0 3;want 3 3;arc 0 1 2 1;arc 0 2 2 1;arc 1 3 1 1;arc 2 3 1 1;");
        due("cut() of all behind", x.cut(), 7);
    }

    private void steps() {
        promise = "31 steps";
        TreeFlows x = laid(THREE);
        due("steps(0)", x.steps(0), 3);
        // Steep goes 1, 0, 2 as well. Round goes 1, 2 (it is full at 3), 0 (102 leaves), and 2 again, which costs 4 too much.
        due("steps(1)", x.steps(1), 3);
        due("steps(2)", x.steps(2), 4);
        due("steps(3)", x.steps(3), -1);
        due("steps(-1)", x.steps(-1), -1);
        due("grid(5)", x.grid(5), 0);
        due("grid(8)", x.grid(8), -1);
        x.pivot();
        due("steps(0)", x.steps(0), 2);
        x.pivots(60);
        due("steps(0)", x.steps(0), 0);
        x = laid("points 3;supply 0 4;want 2 4;arc 0 2 9 8;arc 0 2 9 1;");
        due("steps(0)", x.steps(0), 2);
        due("steps(1)", x.steps(1), 1);
        due("steps(2)", x.steps(2), 2);
        x.pivot();
        x.cold();
        due("steps(2) behind arc 0", x.steps(2), 1);
    }

    private void worth() {
        promise = "32 worth";
        TreeFlows x = laid(THREE);
        due("worth(0,0)", x.worth(0, 0), 0);
        due("worth(1,0)", x.worth(1, 0), -4);
        due("worth(2,0)", x.worth(2, 0), 0);
        due("worth(0,1) without a plan then", x.worth(0, 1), -1000000);
        due("worth(0,2)", x.worth(0, 2), 4);
        due("worth(1,2)", x.worth(1, 2), 4);
        due("worth(2,2)", x.worth(2, 2), 2);
        due("worth(3,0)", x.worth(3, 0), -1000000);
        due("worth(-1,0)", x.worth(-1, 0), -1000000);
        due("worth(0,3)", x.worth(0, 3), -1000000);
        due("worth(0,-1)", x.worth(0, -1), -1000000);
        due("grid(7)", x.grid(7), 0);
        x.shift(2, 0, 4);
        due("worth(0,1)", x.worth(0, 1), 8);
        x.block(2, false);
        due("worth(2,1) of a blocked one", x.worth(2, 1), 0);
        x.shift(0, 2, 9);
        due("worth(0,2) without a plan", x.worth(0, 2), -1000000);
        x = laid("supply 0 99;want 1 99;arc 0 1 99 99;arc 0 1 99 98;block 1;");
        due("worth(0,2) at 99", x.worth(0, 2), 99);
        due("worth(0,0) at 99", x.worth(0, 0), 0);
    }

    private void toll() {
        promise = "33 toll";
        TreeFlows x = laid(THREE);
        due("toll(0,2)", x.toll(0, 2), 9);
        due("toll(2,0)", x.toll(2, 0), -9);
        due("toll(0,1)", x.toll(0, 1), 2);
        due("toll(1,2)", x.toll(1, 2), 7);
        due("toll(0,0)", x.toll(0, 0), -1000000);
        due("toll(0,3)", x.toll(0, 3), -1000000);
        due("toll(-1,0)", x.toll(-1, 0), -1000000);
        due("point(0,0)", x.point(0, 0), 6);
        x.shift(0, 2, 1);
        due("toll(0,2) without a plan then", x.toll(0, 2), -1000000);
        x.shift(0, 2, 1);
        due("toll(2,0) without a plan now", x.toll(2, 0), -1000000);
        x = laid("supply 0 99;want 1 99;arc 0 1 99 1;arc 0 1 9 5;");
        due("toll(0,1) beyond 99", x.toll(0, 1), 5);
    }

    // ---- kept

    private void image() {
        promise = "34 image";
        TreeFlows x = laid(THREE);
        yes("image(0)", x.image(0));
        yes("image(2)", x.image(2));
        no("image(3)", x.image(3));
        no("image(-1)", x.image(-1));
        due("apart(1)", x.apart(1), -1);
        x.pivots(60);
        yes("image(0)", x.image(0));
        due("apart(0)", x.apart(0), 0);
        due("apart(2)", x.apart(2), 3);
        due("grid(11)", x.grid(11), 1);
    }

    private void again() {
        promise = "35 again";
        TreeFlows x = laid(THREE);
        no("again(0)", x.again(0));
        no("again(3)", x.again(3));
        no("again(-1)", x.again(-1));
        x.pivots(2);
        x.rule(2);
        Texts.spell(x, "x;");
        x.work();
        Texts.spell(x, "cold;");
        x.image(1);
        x.lay();
        x.lay();
        x.cold();
        yes("again(1)", x.again(1));
        due("grid(0)", x.grid(0), 3);
        due("grid(2)", x.grid(2), 2);
        due("grid(5)", x.grid(5), 2);
        due("grid(7)", x.grid(7), 0);
        due("grid(8)", x.grid(8), 0);
        due("grid(10)", x.grid(10), 5);
        due("grid(11)", x.grid(11), 0);
        due("fault(false)", x.fault(false), 1);
        due("fault(true)", x.fault(true), 0);
        due("past(1,1)", x.past(1, 1), 101);
        dueFlows(x, 4, 4, 0);
        due("work()", x.work(), 1);
        due("grid(7)", x.grid(7), 1);
        yes("again(1)", x.again(1));
        due("grid(7)", x.grid(7), 0);
        due("undo()", x.undo(), -1);
    }
}
