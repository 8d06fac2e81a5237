import java.io.IOException;
import java.nio.file.Files;
import java.nio.file.Path;
import java.util.ArrayList;
import java.util.List;
import java.util.NoSuchElementException;
import java.util.function.IntSupplier;

/**
 * What the boundary tests share. Nothing is promised behind an object's 512th call; the class does not count its calls,
 * and tests that look at whole states lean on that.
 *
 * Each test stands behind a sentence of the document, quoted as it stands there: a quote
 * that the document does not hold is a fault of the test, and what no test quotes is told by uncovered().
 */
abstract class Boundary {
    /** Cold: loans 6, 0, -6. By first: 1 enters (101 leaves, 0), 0 enters (1 leaves, 4), 2 enters (102 leaves, 2). */
    static final String THREE = "points 3;arc 0 1 5 2;arc 1 2 4 3;arc 0 2 3 9;supply 0 6;want 2 6;";
    /** Arc 0 is FULL at 3 once it has entered; arc 1 carries the other 2 in the TREE. */
    static final String PAIR = "supply 0 5;want 1 5;arc 0 1 3 1;arc 0 1 9 4;";
    /** Seven arcs each way between two points, each of BOUND 99: the best is all of them full. */
    static final String RING = "gain 0 1 99 99;".repeat(7) + "arc 1 0 99 0;".repeat(7);
    static final int THROWN = Integer.MIN_VALUE + 1;

    private static final List<String> QUOTES = new ArrayList<>();
    private static String document;
    private static int wrong;
    private static int checked;
    private static String sentence = "";

    abstract void run();

    // ---- the document

    static void open(Path path) throws IOException {
        document = squeezed(Files.readString(path));
    }

    private static String squeezed(String text) {
        return text.replaceAll("\\s+", " ");
    }

    static void sentence(String words) {
        sentence = words;
        String quote = squeezed(words);
        QUOTES.add(quote);
        if (!document.contains(quote)) {
            complain("the document does not say so");
        }
    }

    /** What of a part of the document no test quotes: words alone, without signs. */
    static String uncovered(String from, String to) {
        int begin = document.indexOf(from) + from.length();
        int end = to.isEmpty() ? document.length() : document.indexOf(to, begin);
        String part = document.substring(begin, end).replaceFirst("^[^`.]*`[^`]*`:", "");
        boolean[] quoted = new boolean[part.length()];
        for (String quote : QUOTES) {
            for (int at = part.indexOf(quote); at >= 0; at = part.indexOf(quote, at + 1)) {
                java.util.Arrays.fill(quoted, at, at + quote.length(), true);
            }
        }
        StringBuilder left = new StringBuilder();
        for (int i = 0; i < part.length(); i++) {
            left.append(quoted[i] ? ' ' : part.charAt(i));
        }
        return left.toString().replaceAll("```text|```", " ").replaceAll("[^A-Za-z0-9]+", " ").trim();
    }

    // ---- what is counted

    static int wrong() {
        return wrong;
    }

    static int checked() {
        return checked;
    }

    static void complain(String what) {
        wrong++;
        System.out.println("\"" + sentence + "\": " + what);
    }

    static void due(String call, long got, long want) {
        checked++;
        if (got != want) {
            complain(call + " answered " + got + ", due is " + want);
        }
    }

    static void due(String call, String got, String want) {
        checked++;
        if (!got.equals(want)) {
            complain(call + ":\n    " + got + "\n  due is\n    " + want);
        }
    }

    static void yes(String call, boolean got) {
        due(call, got ? 1 : 0, 1);
    }

    static void no(String call, boolean got) {
        due(call, got ? 1 : 0, 0);
    }

    // ---- objects

    static TreeFlows told(String text) {
        TreeFlows x = new TreeFlows();
        Texts.spell(x, text);
        return x;
    }

    static TreeFlows laid(String text) {
        TreeFlows x = told(text);
        if (x.lay() == TreeFlows.NONE) {
            complain("fault " + x.fault(false) + " at " + x.fault(true) + " of " + text);
        }
        return x;
    }

    static TreeFlows best(String text) {
        TreeFlows x = laid(text);
        x.pivots(60);
        if (x.grid(3) != 1) {
            complain("not best behind 60 pivots: " + text);
        }
        return x;
    }

    static int worked(TreeFlows x, String orders) {
        Texts.spell(x, orders);
        return x.work();
    }

    static int arcOf(TreeFlows x, int arc, int what) {
        return orThrown(() -> x.arc(arc, what));
    }

    static int pointOf(TreeFlows x, int point, int what) {
        return orThrown(() -> x.point(point, what));
    }

    private static int orThrown(IntSupplier call) {
        try {
            return call.getAsInt();
        } catch (NoSuchElementException none) {
            return THROWN;
        }
    }

    /** lay() of a text on an object that has something to lose: the FAULT, its place, and that all else stays. */
    static void dueFault(String text, int kind, int place) {
        TreeFlows x = best(THREE);
        String ahead = seen(x);
        Texts.spell(x, text);
        int arcs = x.lay();
        due("fault(false) of " + text, x.fault(false), kind);
        due("fault(true) of " + text, x.fault(true), place);
        due("grid(10) behind " + text, x.grid(10), 0);
        if (kind != 0) {
            due("lay() of " + text, arcs, TreeFlows.NONE);
            due("all else behind " + text, seen(x), ahead);
        } else {
            due("lay() of " + text, arcs, x.grid(1));
        }
    }

    static void dueOrderFault(String text, int kind, int place) {
        TreeFlows x = best(THREE);
        String ahead = seen(x);
        int done = worked(x, text);
        due("fault(false) of " + text, x.fault(false), kind);
        due("fault(true) of " + text, x.fault(true), place);
        due("grid(10) behind " + text, x.grid(10), 0);
        if (kind != 0) {
            due("work() of " + text, done, TreeFlows.NONE);
            due("all else behind " + text, seen(x), ahead);
        }
    }

    static void dueFlows(TreeFlows x, int... flows) {
        for (int a = 0; a < flows.length; a++) {
            due("arc(" + a + ",4)", arcOf(x, a, 4), flows[a]);
        }
    }

    static void dueStates(TreeFlows x, int... states) {
        for (int a = 0; a < states.length; a++) {
            due("arc(" + a + ",5)", arcOf(x, a, 5), states[a]);
        }
    }

    static void dueLoans(TreeFlows x, int... loans) {
        for (int p = 0; p < loans.length; p++) {
            due("point(" + p + ",6)", pointOf(x, p, 6), loans[p]);
        }
    }

    static void dueSupplies(TreeFlows x, int... supplies) {
        for (int p = 0; p < supplies.length; p++) {
            due("point(" + p + ",0)", pointOf(x, p, 0), supplies[p]);
        }
    }

    static void duePrices(TreeFlows x, int... prices) {
        for (int p = 0; p < prices.length; p++) {
            due("point(" + p + ",1)", pointOf(x, p, 1), prices[p]);
        }
    }

    static void dueRow(String call, int[] want, java.util.function.IntUnaryOperator got) {
        for (int i = 0; i < want.length; i++) {
            due(call + " " + i, got.applyAsInt(i), want[i]);
        }
    }

    /** All that questions tell of a state, but THE TEXT and the FAULT. */
    static String seen(TreeFlows x) {
        StringBuilder all = new StringBuilder();
        for (int w = 0; w <= 11; w++) {
            all.append(w == 10 ? "" : x.grid(w) + " ");
        }
        for (int a = 0; a < x.grid(1); a++) {
            all.append("| arc ").append(a);
            for (int w = 0; w <= 7; w++) {
                all.append(' ').append(x.arc(a, w));
            }
        }
        for (int p = 0; p < x.grid(0); p++) {
            all.append("| point ").append(p);
            for (int w = 0; w <= 6; w++) {
                all.append(' ').append(x.point(p, w));
            }
        }
        all.append("| past");
        for (int k = 0; k < 13; k++) {
            for (int w = 0; w < 3; w++) {
                all.append(' ').append(x.past(k, w));
            }
        }
        for (int k = 0; k < 3; k++) {
            all.append("| apart ").append(x.apart(k));
        }
        return all.toString();
    }

    /** What questions of what is best, of trips and the like tell besides. */
    static String asked(TreeFlows x) {
        StringBuilder all = new StringBuilder();
        all.append(x.bill(1)).append(' ').append(x.least()).append(' ').append(x.lack()).append(' ').append(x.cut());
        for (int k = -1; k < 15; k++) {
            all.append("| ").append(k).append(' ').append(x.thread(k)).append(' ').append(x.ledger(k, false)).append(' ')
                .append(x.ledger(k, true)).append(' ').append(x.steps(k)).append(' ').append(x.next(k));
            for (int w = 0; w < 18; w++) {
                all.append(' ').append(x.trip(k, w));
            }
            all.append(' ').append(x.span(k, false)).append(' ').append(x.span(k, true));
            for (int w = 0; w < 3; w++) {
                all.append(' ').append(x.worth(k, w));
            }
        }
        for (int p = 0; p < x.grid(0); p++) {
            for (int q = 0; q < x.grid(0); q++) {
                all.append("| ").append(x.wide(p, q)).append(' ').append(x.toll(p, q));
                for (int w = 0; w < 18; w++) {
                    all.append(' ').append(x.path(p, q, w));
                }
            }
        }
        return all.toString();
    }

    /** The same without what can be undone. */
    static String seenButUndo(TreeFlows x) {
        return seen(x).replaceFirst("^((?:\\S+ ){10})\\S+ ", "$1");
    }
}
