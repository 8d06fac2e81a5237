/** Terms 1 and the promises of texts: 1 to 4, and the FAULTS of ORDERS. */
final class BoundaryTexts extends Boundary {
    private static final String[] GRID_LINES = {"points 3;", "arc 0 1 5 2;", "gain 1 0 5 2;", "supply 0 0;", "want 1 0;",
        "first;", "steep;", "round;"};
    private static final String[] ORDER_LINES = {"pivot 1;", "shift 0 1 1;", "block 0;", "open 0;", "widen 0 9;",
        "charge 0 9;", "gain 0 9;", "cold;", "first;", "steep;", "round;"};

    @Override
    void run() {
        pointsAndArcs();
        boundsAndCosts();
        supplies();
        loans();
        lengthOfText();
        tokens();
        signsAmongTokens();
        numbers();
        forms();
        meanings();
        laterOnes();
        faultOne();
        faultTwo();
        fifteenthArc();
        faultThree();
        faultFour();
        orders();
        orderNumbers();
        newObject();
        spell();
        spellFull();
        lay();
        layBehindGreater();
        layWithFault();
        fault();
    }

    private static String arcs(int n) {
        StringBuilder text = new StringBuilder();
        for (int i = 0; i < n; i++) {
            text.append(i % 2 == 0 ? "arc 0 1 " : "gain 1 0 ").append(i).append(" 1;");
        }
        return text.toString();
    }

    private static String sign(int code) {
        return String.valueOf((char) code);
    }

    // ---- terms 1

    private void pointsAndArcs() {
        sentence("A GRID has POINTS, 2 to 7 (2 at first), from 0 on, and ARCS, at most 14, numbered from 0 on as they come:");
        due("grid(0) at first", new TreeFlows().grid(0), 2);
        due("grid(0) of no points told", laid("arc 0 1 1 1;").grid(0), 2);
        for (int n = 2; n <= 7; n++) {
            TreeFlows x = laid("points " + n + ";");
            due("grid(0)", x.grid(0), n);
            due("point(0,0)", pointOf(x, 0, 0), 0);
            due("point(last,0)", pointOf(x, n - 1, 0), 0);
            due("point behind the last", pointOf(x, n, 0), THROWN);
        }
        TreeFlows x = laid(arcs(14));
        due("grid(1)", x.grid(1), 14);
        for (int a = 0; a < 14; a++) {
            due("from", arcOf(x, a, 0), a % 2);
            due("to", arcOf(x, a, 1), 1 - a % 2);
            due("bound", arcOf(x, a, 2), a);
        }
        due("arc(14,0)", arcOf(x, 14, 0), THROWN);
        due("no arcs", laid("points 7;").grid(1), 0);
    }

    private void boundsAndCosts() {
        sentence("each from a POINT to another one, with a BOUND, 0 to 99, a COST, -99 to 99, and it is OPEN (at first) or BLOCKED.");
        TreeFlows x = laid("points 7;arc 0 6 0 0;arc 6 0 99 99;gain 5 6 99 99;gain 0 1 0 0;block 2;");
        int[][] want = {{0, 6, 0, 0, 0, 0}, {6, 0, 99, 99, 0, 0}, {5, 6, 99, -99, 0, 3}, {0, 1, 0, 0, 0, 0}};
        for (int a = 0; a < want.length; a++) {
            for (int w = 0; w < want[a].length; w++) {
                due("arc(" + a + "," + w + ")", arcOf(x, a, w), want[a][w]);
            }
        }
    }

    private void supplies() {
        sentence("A POINT has a SUPPLY, -99 to 99 (0 at first).");
        dueSupplies(new TreeFlows(), 0, 0);
        dueSupplies(laid("points 3;supply 0 99;want 2 99;"), 99, 0, -99);
        dueSupplies(laid("want 0 99;supply 1 99;"), -99, 99);
    }

    private void loans() {
        sentence("There is a ROOT besides; each POINT has a LOAN: an ARC between it and the ROOT, without a BOUND, of COST 10,000.");
        TreeFlows x = best(RING);
        due("least()", x.least(), -99 * 99 * 7);
        for (int a = 7; a < 14; a++) {
            yes("block", x.block(a, false));
        }
        // Seven full arcs from 0 to 1 and none back: the loans carry 7 times 99.
        dueLoans(x, -693, 693);
        due("grid(4)", x.grid(4), 1386);
        due("path(0,1,1) against the loans", x.path(0, 1, 1), 693);
        due("path(1,0,1) along the loans", x.path(1, 0, 1), -1);
        duePrices(x, 10000, -10000);
        due("path(1,0,2)", x.path(1, 0, 2), 20000);
        x = laid("points 7;");
        for (int p = 0; p < 7; p++) {
            due("point(" + p + ",2)", pointOf(x, p, 2), 7);
            due("point(" + p + ",3)", pointOf(x, p, 3), 100 + p);
        }
    }

    private void lengthOfText() {
        sentence("THE TEXT has at most 400 bytes.");
        TreeFlows x = told(" ".repeat(394) + "steep;");
        due("grid(10)", x.grid(10), 400);
        due("lay() of 400 bytes", x.lay(), 0);
        due("grid(2)", x.grid(2), 1);
        x = told(" ".repeat(395) + "steep");
        due("grid(10)", x.grid(10), 400);
        due("spell of one more", x.spell(Texts.eight(";")), -1);
        due("lay() without its end", x.lay(), -1);
        due("fault(true)", x.fault(true), 400);
        x = told("\n".repeat(400));
        due("lay() of 400 blanks", x.lay(), 0);
    }

    private void tokens() {
        sentence("TOKENS, each as long as it goes, with blanks (32, 10) between where one likes:");
        dueFault("arc0 1 5 2;", 0, -1);
        dueFault("arc 0 12 3;", 1, 10);
        dueFault("arc 0 1 2 3;", 0, -1);
        dueFault("firststeep;", 1, 0);
        dueFault("first;steep;", 0, -1);
        dueFault("fi rst;", 1, 0);
        dueFault("points3;", 0, -1);
        dueFault("points3points 4;", 1, 7);
        dueFault("points 1 1;", 1, 9);
        dueFault(" \n\n  first\n\n;\n", 0, -1);
        dueFault("\nfirst ;;", 1, 8);
        dueFault("points\n3\n;supply\n0\n1;want 1\n\n1 ;", 0, -1);
    }

    /** Each byte at each kind of place: behind a line, inside a word, behind a number, ahead of a number. */
    private void signsAmongTokens() {
        sentence("words, letters a to z; NUMBERS, 1 or 2 digits (more are none); the sign ;");
        for (int code = 1; code <= 255; code++) {
            boolean blank = code == 32 || code == 10;
            boolean letter = code >= 'a' && code <= 'z';
            boolean digit = code >= '0' && code <= '9';
            boolean stop = code == ';';
            dueFault("first;" + sign(code), blank ? 0 : 1, blank ? -1 : 6);
            dueFault("first" + sign(code) + ";", blank ? 0 : 1, blank ? -1 : letter ? 0 : stop ? 6 : 5);
            if (digit) {
                dueFault("points 3" + sign(code) + ";", 2, 7);
            } else {
                dueFault("points 3" + sign(code) + ";", blank ? 0 : 1, blank ? -1 : stop ? 9 : 8);
            }
            boolean can = code >= '2' && code <= '7';
            dueFault("points " + sign(code) + ";", can ? 0 : digit ? 2 : 1, can ? -1 : blank ? 8 : 7);
        }
    }

    private void numbers() {
        sentence("NUMBERS, 1 or 2 digits (more are none);");
        dueFault("points 03;", 0, -1);
        dueFault("points 003;", 1, 7);
        dueFault("points 3 0;", 1, 9);
        dueFault("arc 00 01 00 099;", 1, 13);
        dueFault("arc 000 1 1 1;", 1, 4);
        dueFault("arc 0 1 100 1;", 1, 8);
        dueFault("arc 0 1 1 1234567890123;", 1, 10);
        dueFault("first 123;", 1, 6);
        TreeFlows x = laid("arc 00 01 09 08;");
        due("arc(0,2)", arcOf(x, 0, 2), 9);
        due("arc(0,3)", arcOf(x, 0, 3), 8);
        due("arc(0,2)", arcOf(laid("arc 0 1 10 0;"), 0, 2), 10);
    }

    private void forms() {
        sentence("A text: any number of  points N ;  arc N N N N ;  gain N N N N ;  supply N N ;  want N N ;  block N ;  first ;  steep ;  round ;");
        dueFault("", 0, -1);
        dueFault("first;".repeat(66), 0, -1);
        dueFault("arc 0 1 1 1;" + "block 0;".repeat(48), 0, -1);
        for (String line : GRID_LINES) {
            dueForm(line, false);
        }
        dueFault("arc 0 1 1 1;block;", 1, 17);
        dueFault("arc 0 1 1 1;block 0 0;", 1, 20);
        for (String line : ORDER_LINES) {
            if (!line.matches("(block|gain|first|steep|round).*")) {
                dueFault(line, 1, 0);
            }
        }
        for (String line : GRID_LINES) {
            dueWord(line, false);
        }
        dueFault("gain 0 9;", 1, 8);
        dueFault("3;", 1, 0);
        dueFault("point 3;", 1, 0);
        dueFault("pointss 3;", 1, 0);
        dueFault("points points 3;", 1, 7);
    }

    /** The line itself is right; without its last number, with one more, without its end, with its end twice it is not. */
    private static void dueForm(String line, boolean orders) {
        int end = line.length() - 1;
        String body = line.substring(0, end);
        String less = body.contains(" ") ? body.substring(0, body.lastIndexOf(' ')) : "";
        String[] texts = {line, body + " 1;", body, line + ";", less + ";"};
        int[] places = {-1, end + 1, end, end + 1, less.length()};
        for (int i = 0; i < texts.length; i++) {
            if (orders) {
                dueOrderFault(texts[i], i == 0 ? 0 : 1, places[i]);
            } else {
                dueFault(texts[i], i == 0 ? 0 : 1, places[i]);
            }
        }
    }

    /** With another letter at any place the word is none; nor is it with one more, or one less. */
    private static void dueWord(String line, boolean orders) {
        int end = line.replaceAll("[^a-z].*", "").length();
        for (int i = 0; i < end; i++) {
            String[] texts = {line.substring(0, i) + "q" + line.substring(i + 1), line.substring(0, i) + line.substring(i + 1),
                line.substring(0, i) + "q" + line.substring(i)};
            for (String text : texts) {
                if (orders) {
                    dueOrderFault(text, 1, 0);
                } else {
                    dueFault(text, 1, 0);
                }
            }
        }
    }

    private void meanings() {
        sentence("(arc: from, to, BOUND, COST; gain: likewise, the COST is 0 less N; supply: a POINT, its SUPPLY; want: a POINT, its SUPPLY is 0 less N; block: an ARC told ahead; first, steep, round: the RULE, first at first).");
        TreeFlows x = laid("points 3;arc 2 1 7 8;gain 1 0 9 6;block 1;supply 2 5;want 1 5;");
        dueRow("arc 0", new int[] {2, 1, 7, 8, 0, 0}, w -> x.arc(0, w));
        dueRow("arc 1", new int[] {1, 0, 9, -6, 0, 3}, w -> x.arc(1, w));
        dueSupplies(x, 0, -5, 5);
        due("the rule at first", x.grid(2), 0);
        due("first", laid("first;").grid(2), 0);
        due("steep", laid("steep;").grid(2), 1);
        due("round", laid("round;").grid(2), 2);
        TreeFlows y = laid("steep;");
        y.rule(2);
        y.lay();
        due("the rule of a text that tells none", y.grid(2), 0);
    }

    private void laterOnes() {
        sentence("Later ones strike, but arc, gain, block tell of further ones (the same block again does nothing).");
        due("points", laid("points 7;points 3;").grid(0), 3);
        due("points", laid("points 3;points 7;").grid(0), 7);
        dueSupplies(laid("supply 0 5;want 0 7;want 1 9;supply 1 7;"), -7, 7);
        dueSupplies(laid("supply 0 5;supply 0 0;"), 0, 0);
        due("rules", laid("steep;round;first;").grid(2), 0);
        due("rules", laid("first;round;steep;").grid(2), 1);
        TreeFlows x = laid("arc 0 1 1 1;arc 0 1 1 1;block 1;block 1;gain 0 1 1 1;block 0;block 1;");
        due("arcs", x.grid(1), 3);
        dueStates(x, 3, 3, 0);
    }

    // ---- faults

    private void faultOne() {
        sentence("FAULTS, with the place (the byte from 0 on; the end's: how many bytes there are): 1 the first token that can not stand there, or a byte that begins none, or the end, if more must come.");
        dueFault("x", 1, 0);
        dueFault("  x", 1, 2);
        dueFault("arc 0 1 5 2;x $", 1, 12);
        dueFault("arc 0 1 5 2;$ x", 1, 12);
        dueFault("arc 0 1 $ x", 1, 8);
        dueFault("arc 0 x $", 1, 6);
        dueFault("first", 1, 5);
        dueFault("first \n", 1, 7);
        dueFault("first;points", 1, 12);
        dueFault("first;points 3 ", 1, 15);
        dueFault("ar\tc 0", 1, 0);
        dueFault("arc\t0 1 5 2;", 1, 3);
        String line = "arc 0 1 5 2;";
        for (int n = 1; n < line.length(); n++) {
            dueFault(line.substring(0, n), 1, n < 3 ? 0 : n);
        }
        dueFault("points 9;block 5;supply 0 1;x", 1, 28);
        dueFault("points 9;block 5;supply 0 1", 1, 27);
    }

    private void faultTwo() {
        sentence("If there is none: 2 the first NUMBER that can not be (of points 2 to 7; of a POINT 0 to 6, the second one of an arc, a gain not the first one; of block one of an ARC told ahead; others can all be),");
        for (int n = 0; n <= 99; n++) {
            dueFault("points " + n + ";", n >= 2 && n <= 7 ? 0 : 2, n >= 2 && n <= 7 ? -1 : 7);
            boolean point = n <= 6;
            dueFault("points 7;supply " + n + " 0;", point ? 0 : 2, point ? -1 : 16);
            dueFault("points 7;want " + n + " 0;", point ? 0 : 2, point ? -1 : 14);
            dueFault("points 7;arc " + n + " 3 1 1;", point && n != 3 ? 0 : 2, n == 3 ? 15 : point ? -1 : 13);
            dueFault("points 7;gain 3 " + n + " 1 1;", point && n != 3 ? 0 : 2, point && n != 3 ? -1 : 16);
            dueFault("arc 0 1 " + n + " " + n + ";gain 0 1 " + n + " " + n + ";supply 0 " + n + ";want 1 " + n + ";", 0, -1);
            dueFault(arcs(3) + "block " + n + ";", n < 3 ? 0 : 2, n < 3 ? -1 : arcs(3).length() + 6);
        }
        dueFault("block 0;", 2, 6);
        dueFault("block 0;arc 0 1 1 1;", 2, 6);
        dueFault("arc 0 1 1 1;block 1;arc 0 1 1 1;", 2, 18);
        dueFault("arc 0 1 1 1;arc 0 1 1 1;block 1;", 0, -1);
        dueFault("arc 7 7 1 1;", 2, 4);
        dueFault("arc 7 8 1 1;", 2, 4);
        dueFault("arc 0 0 1 1;points 9;", 2, 6);
        dueFault("points 9;arc 0 0 1 1;", 2, 7);
        dueFault("supply 0 9;supply 5 1;want 7 1;", 2, 27);
        dueFault("points 1;points 3;", 2, 7);
        dueFault("points 2;arc 0 6 1 1;", 3, 15);
    }

    private void fifteenthArc() {
        sentence("or the word of a 15th ARC.");
        String many = arcs(14);
        dueFault(many, 0, -1);
        dueFault(many + "arc 0 1 1 1;", 2, many.length());
        dueFault(many + " gain 0 1 1 1;", 2, many.length() + 1);
        dueFault(many + "arc 9 9 1 1;", 2, many.length());
        dueFault(many + "arc 0 1 1 1;arc 0 1 1 1;", 2, many.length());
        dueFault(many + "block 14;arc 0 1 1 1;", 2, many.length() + 6);
        dueFault(many + "arc 0 1 1 1;block 14;", 2, many.length());
        dueFault("points 8;" + many + "arc 0 1 1 1;", 2, 7);
        dueFault(many + "block 13;", 0, -1);
        dueFault("supply 6 1;" + many + "arc 0 1 1 1;", 2, many.length() + 11);
    }

    private void faultThree() {
        sentence("If there is none: 3 the first NUMBER of a POINT that is not there (by the POINTS that there are at the end).");
        for (int n = 2; n <= 7; n++) {
            String points = "points " + n + ";";
            for (int p = 1; p <= 6; p++) {
                int kind = p < n ? 0 : 3;
                dueFault("arc 0 " + p + " 1 1;" + points, kind, kind == 0 ? -1 : 6);
                dueFault("gain " + p + " 0 1 1;" + points, kind, kind == 0 ? -1 : 5);
                dueFault(points + "supply " + p + " 0;", kind, kind == 0 ? -1 : 16);
                dueFault(points + "want " + p + " 0;", kind, kind == 0 ? -1 : 14);
            }
        }
        dueFault("points 7;arc 0 6 1 1;points 6;", 3, 15);
        dueFault("points 2;arc 0 6 1 1;points 7;", 0, -1);
        dueFault("arc 5 4 1 1;", 3, 4);
        dueFault("supply 2 1;arc 3 0 1 1;", 3, 7);
        dueFault("arc 3 0 1 1;supply 2 1;", 3, 4);
        dueFault("supply 2 5;supply 2 0;", 3, 7);
        dueFault("supply 0 5;want 3 1;", 3, 16);
    }

    private void faultFour() {
        sentence("If there is none: 4, at the end's place: all SUPPLIES together are not 0.");
        dueFault("supply 0 1;", 4, 11);
        dueFault("want 0 1;", 4, 9);
        dueFault("supply 0 1; \n", 4, 13);
        dueFault("supply 0 5;want 1 4;", 4, 20);
        dueFault("supply 0 5;want 1 6;", 4, 20);
        dueFault("supply 0 5;want 1 5;", 0, -1);
        dueFault("supply 0 5;supply 0 0;", 0, -1);
        dueFault("supply 0 5;want 1 5;want 0 5;", 4, 29);
        dueFault("points 4;supply 0 99;supply 1 99;want 2 99;want 3 99;", 0, -1);
        dueFault("points 4;supply 0 99;supply 1 99;want 2 99;want 3 98;", 4, 53);
        dueFault(" ".repeat(389) + "supply 0 1;", 4, 400);
    }

    private void orders() {
        sentence("ORDERS, another text: any number of  pivot N ;  shift N N N ;  block N ;  open N ;  widen N N ;  charge N N ;  gain N N ;  cold ;  first ;  steep ;  round ;");
        dueOrderFault("", 0, -1);
        dueOrderFault(" \n", 0, -1);
        dueOrderFault("cold;".repeat(80), 0, -1);
        dueOrderFault("cold;".repeat(79) + "cold ", 1, 400);
        dueOrderFault("cold;".repeat(79) + ";", 1, 395);
        for (String line : ORDER_LINES) {
            dueForm(line, true);
            dueWord(line, true);
        }
        for (String line : GRID_LINES) {
            if (!line.matches("(gain|first|steep|round).*")) {
                dueOrderFault(line, 1, 0);
            }
        }
        dueOrderFault("gain 0 1 1 1;", 1, 9);
    }

    private void orderNumbers() {
        sentence("(pivot: 1 to 60; shift: two POINTS, 1 to 99; block, open: an ARC; widen, charge: an ARC, a number; gain: an ARC, the COST is 0 less N).");
        TreeFlows x = laid(THREE);
        due("work()", worked(x, "pivot 60;shift 0 1 93;shift 2 1 6;block 2;open 2;widen 2 99;charge 2 99;gain 1 99;"), 8);
        dueSupplies(x, 99, -99, 0);
        due("arc(2,2)", arcOf(x, 2, 2), 99);
        due("arc(2,3)", arcOf(x, 2, 3), 99);
        due("arc(1,3)", arcOf(x, 1, 3), -99);
        due("work()", worked(x, "widen 2 0;charge 2 0;gain 1 0;"), 3);
        due("arc(2,2)", arcOf(x, 2, 2), 0);
        due("arc(2,3)", arcOf(x, 2, 3), 0);
        due("arc(1,3)", arcOf(x, 1, 3), 0);
        sentence("FAULTS: 1 likewise; 2 the first NUMBER that can not be (of pivot, the last one of shift as told; of a POINT 0 to 6; of an ARC 0 to 13).");
        for (int n = 0; n <= 99; n++) {
            boolean pivot = n >= 1 && n <= 60;
            dueOrderFault("pivot " + n + ";", pivot ? 0 : 2, pivot ? -1 : 6);
            dueOrderFault("shift " + n + " 3 1;", n <= 6 ? 0 : 2, n <= 6 ? -1 : 6);
            dueOrderFault("shift 3 " + n + " 1;", n <= 6 ? 0 : 2, n <= 6 ? -1 : 8);
            dueOrderFault("shift 0 1 " + n + ";", n >= 1 ? 0 : 2, n >= 1 ? -1 : 10);
            int kind = n <= 13 ? 0 : 2;
            dueOrderFault("block " + n + ";", kind, kind == 0 ? -1 : 6);
            dueOrderFault("open " + n + ";", kind, kind == 0 ? -1 : 5);
            dueOrderFault("widen " + n + " 1;", kind, kind == 0 ? -1 : 6);
            dueOrderFault("charge " + n + " 1;", kind, kind == 0 ? -1 : 7);
            dueOrderFault("gain " + n + " 1;", kind, kind == 0 ? -1 : 5);
            dueOrderFault("widen 0 " + n + ";charge 0 " + n + ";gain 0 " + n + ";", 0, -1);
        }
        dueOrderFault("shift 7 7 0;", 2, 6);
        dueOrderFault("shift 6 7 0;", 2, 8);
        dueOrderFault("cold;block 14;pivot 61;", 2, 11);
        dueOrderFault("pivot 0;block 14;", 2, 6);
        dueOrderFault("pivot 0;block 14", 1, 16);
        dueOrderFault("pivot 0;block 140;", 1, 14);
        dueOrderFault("shift 3 3 5;", 0, -1);
    }

    // ---- promises

    private void newObject() {
        sentence("Two POINTS, no ARCS.");
        TreeFlows x = new TreeFlows();
        dueRow("grid", new int[] {2, 0, 0, 1, 0, 0, 0, 0, -1, 0, 0, 0, -1}, x::grid);
        due("point(2,0)", pointOf(x, 2, 0), THROWN);
        due("arc(0,0)", arcOf(x, 0, 0), THROWN);
        duePrices(x, -10000, -10000);
        due("thread(1)", x.thread(1), 1);
        due("path(0,1,0)", x.path(0, 1, 0), 2);
        due("pivot()", x.pivot(), -1);
        due("pivots(60)", x.pivots(60), 0);
        due("next(0)", x.next(0), -1);
        due("undo()", x.undo(), -1);
        due("ledger(-1,false)", x.ledger(-1, false), 0);
        due("trip(-1,0)", x.trip(-1, 0), 0);
        due("wide(0,1)", x.wide(0, 1), 0);
        due("least()", x.least(), 0);
        due("lack()", x.lack(), 0);
        due("cut()", x.cut(), 0);
        due("toll(0,1)", x.toll(0, 1), -1000000);
        due("span(0,true)", x.span(0, true), -1000);
        no("again(0)", x.again(0));
        yes("shift(0,1,99)", x.shift(0, 1, 99));
        due("lack()", x.lack(), 198);
    }

    private void spell() {
        sentence("Bytes come behind THE TEXT: those of eight, the highest first, up to the first one that is 0: how many THE TEXT has.");
        TreeFlows x = new TreeFlows();
        due("spell(0)", x.spell(0L), 0);
        due("spell of a 0 first", x.spell(0x0061616161616161L), 0);
        due("spell of 1", x.spell(0x7300000000000000L), 1);
        due("spell of 1, 0, 6", x.spell(0x7400616161616161L), 2);
        due("spell of 2", x.spell(0x6565000000000000L), 4);
        due("spell of 7, 0", x.spell(0x703b2020200a2000L), 11);
        due("spell of 8", x.spell(0x2020202020202020L), 19);
        due("lay()", x.lay(), 0);
        due("grid(2)", x.grid(2), 1);
        due("spell of 255s", x.spell(-1L), 8);
        due("spell of 128s", x.spell(0x8080808080808080L), 16);
        due("spell of MIN", x.spell(Long.MIN_VALUE), 17);
        due("spell of MAX", x.spell(Long.MAX_VALUE), 25);
        due("spell of 1 in the lowest", x.spell(1L), 25);
        due("lay()", x.lay(), -1);
        due("fault(true)", x.fault(true), 0);
    }

    private void spellFull() {
        sentence("NONE, and nothing comes, if it would have more than 400.");
        for (int room = 0; room <= 8; room++) {
            TreeFlows x = told(" ".repeat(400 - room));
            for (int n = 8; n > room; n--) {
                due("spell of " + n + " with room for " + room, x.spell(Texts.eight("x".repeat(n))), -1);
                due("grid(10)", x.grid(10), 400 - room);
            }
            due("spell of 0", x.spell(0x0078787878787878L), 400 - room);
            due("spell of " + room, x.spell(Texts.eight("\n".repeat(room))), 400);
            due("spell of 1", x.spell(Texts.eight(" ")), -1);
            due("lay() of blanks", x.lay(), 0);
            due("spell of 8 behind", x.spell(Texts.eight("first;  ")), 8);
        }
    }

    private void lay() {
        sentence("THE TEXT is read (it is empty then): all is as told: how many ARCS.");
        for (int n = 0; n <= 14; n++) {
            TreeFlows x = told(arcs(n));
            due("lay()", x.lay(), n);
            due("grid(10)", x.grid(10), 0);
        }
        TreeFlows x = best(THREE);
        x.rule(2);
        x.shift(0, 1, 5);
        x.block(0, false);
        x.cold();
        Texts.spell(x, THREE);
        due("lay()", x.lay(), 3);
        due("all anew", seen(x), seen(laid(THREE)));
        x.image(0);
        due("lay() of the empty text", x.lay(), 0);
        due("apart(0)", x.apart(0), 0);
        dueRow("grid", new int[] {2, 0, 0, 1, 0, 0, 0, 0, -1, 0, 0, 0}, x::grid);
        dueSupplies(x, 0, 0);
        due("point(2,0)", pointOf(x, 2, 0), THROWN);
        due("past(0,0)", x.past(0, 0), -1);
        yes("again(0) behind lay()", x.again(0));
        due("grid(1)", x.grid(1), 3);
        x = laid("points 7;supply 6 4;want 5 4;");
        Texts.spell(x, "points 7;");
        due("lay()", x.lay(), 0);
        dueSupplies(x, 0, 0, 0, 0, 0, 0, 0);
    }

    /** Nothing of a greater grid is left in a smaller one: all answers are those of a new object. */
    private void layBehindGreater() {
        sentence("all is as told:");
        String[] greater = {"gain 0 1 9 9;gain 1 0 9 9;".repeat(7), "gain 1 0 9 9;gain 0 1 9 9;".repeat(7),
            "points 7;" + "gain 6 5 9 9;gain 5 6 9 9;gain 0 1 9 9;gain 1 0 9 9;".repeat(3) + "gain 2 3 9 9;gain 3 2 9 9;"
            + "supply 6 9;want 2 9;"};
        String[] smaller = {"", "points 3;", "supply 0 3;want 1 3;", "supply 1 3;want 0 3;", "arc 0 1 5 2;",
            "supply 0 3;want 1 3;arc 0 1 5 2;", "supply 0 3;want 1 3;arc 0 1 5 2;block 0;", THREE, PAIR,
            "gain 0 1 9 9;gain 1 0 9 9;", "supply 0 9;want 1 9;" + "arc 0 1 1 1;".repeat(13)};
        for (String text : smaller) {
            for (int i = 0; i < greater.length * 4; i++) {
                TreeFlows x = best(greater[i % greater.length]);
                TreeFlows y = laid(text);
                Texts.spell(x, text);
                due("lay()", x.lay(), y.grid(1));
                for (int pivots = i / greater.length; pivots > 0; pivots--) {
                    due("pivot()", x.pivot(), y.pivot());
                }
                due("all of " + text, seen(x), seen(y));
                due("all of " + text, asked(x), asked(y));
            }
        }
    }

    private void layWithFault() {
        sentence("NONE: a FAULT (all but THE TEXT, the FAULT stays).");
        TreeFlows x = laid(THREE);
        x.rule(1);
        x.pivots(2);
        x.image(1);
        x.shift(0, 1, 2);
        String ahead = seen(x);
        String[] bad = {"points 5;arc 0 4 1 1;x", "points 5;round;points 8;", "round;arc 0 2 1 1;", "supply 0 1;round;"};
        for (int i = 0; i < bad.length; i++) {
            Texts.spell(x, bad[i]);
            due("lay() of " + bad[i], x.lay(), -1);
            due("fault(false)", x.fault(false), i + 1);
            due("grid(10)", x.grid(10), 0);
            due("all else", seen(x), ahead);
        }
        due("undo()", x.undo(), 2);
        yes("again(1)", x.again(1));
        Texts.spell(x, "first;");
        due("lay() behind it", x.lay(), 0);
        due("fault(false)", x.fault(false), 0);
    }

    private void fault() {
        sentence("Of the latest lay() or work(): its FAULT (0 without, and at first), or (place) its place (NONE without).");
        TreeFlows x = new TreeFlows();
        due("fault(false) at first", x.fault(false), 0);
        due("fault(true) at first", x.fault(true), -1);
        Texts.spell(x, "supply 0 1;");
        due("fault(false) ahead of lay()", x.fault(false), 0);
        x.lay();
        due("fault(false)", x.fault(false), 4);
        due("fault(true)", x.fault(true), 11);
        Texts.spell(x, "cold");
        due("fault(false) ahead of work()", x.fault(false), 4);
        x.work();
        due("fault(false)", x.fault(false), 1);
        due("fault(true)", x.fault(true), 4);
        due("work() of nothing", x.work(), 0);
        due("fault(false)", x.fault(false), 0);
        due("fault(true)", x.fault(true), -1);
        Texts.spell(x, "points 9;");
        x.lay();
        due("fault(false)", x.fault(false), 2);
        due("a refused order", worked(x, "block 0;"), 0);
        due("fault(false) of a refused order", x.fault(false), 0);
        due("fault(true) of a refused order", x.fault(true), -1);
        worked(x, "pivot 0;");
        due("fault(true)", x.fault(true), 6);
        x.lay();
        due("fault(false)", x.fault(false), 0);
        due("fault(true)", x.fault(true), -1);
    }
}
