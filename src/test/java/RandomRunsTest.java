import java.util.NoSuchElementException;
import java.util.Random;

/** Runs of random calls (always the same ones), each answer held against the slow model. */
public final class RandomRunsTest {
    private static final int RUNS = 400;
    private static final int CALLS = 180;
    private static final String[] SCRAPS = {"points ", "arc ", "gain ", "supply ", "want ", "block ", "first", "steep",
        "round", "pivot ", "shift ", "open ", "widen ", "charge ", "cold", ";", ";", " ", "\n", "0", "1", "2 ", "3 ",
        "15", "60", "61", "99", "100", "7", "A", "\t", "\u00e9", "!", "x"};

    private final Random random;
    private final TreeFlows x = new TreeFlows();
    private final SlowModel slow = new SlowModel();
    private final int run;
    private int wrong;

    private RandomRunsTest(int run) {
        this.run = run;
        this.random = new Random(run);
    }

    public static void main(String[] args) {
        int wrong = 0;
        long checked = 0;
        for (int run = 0; run < RUNS && wrong < 20; run++) {
            RandomRunsTest test = new RandomRunsTest(run);
            for (int i = 0; i < CALLS && test.wrong == 0; i++) {
                test.act();
                if (i % 6 == 0) {
                    test.askAll();
                }
                checked++;
            }
            wrong += test.wrong;
        }
        System.out.println(checked + " acts held against the slow model, " + wrong + " answers wrong");
        if (wrong != 0) {
            System.exit(1);
        }
    }

    private void due(String call, long got, long want) {
        if (got != want) {
            wrong++;
            System.out.println("run " + run + ": " + call + " answered " + got + ", due is " + want);
        }
    }

    private void due(String call, boolean got, boolean want) {
        due(call, got ? 1 : 0, want ? 1 : 0);
    }

    private int upTo(int n) {
        return random.nextInt(n);
    }

    private int aPoint() {
        return upTo(40) == 0 ? upTo(11) - 2 : upTo(slow.grid(0));
    }

    private int anArc() {
        int arcs = slow.grid(1);
        return arcs == 0 || upTo(40) == 0 ? upTo(18) - 2 : upTo(arcs);
    }

    private int number(int most) {
        return upTo(3) == 0 ? upTo(most + 1) : upTo(Math.min(10, most + 1));
    }

    private void tell(String text) {
        for (int i = 0; i < text.length();) {
            int n = Math.min(1 + upTo(8), text.length() - i);
            long eight = Texts.eight(text.substring(i, i + n));
            // What stands behind a byte 0 does not count.
            eight |= n < 7 && upTo(4) == 0 ? upTo(256) : 0;
            due("spell(" + eight + ")", x.spell(eight), slow.spell(eight));
            i += n;
        }
    }

    private String gridText() {
        StringBuilder text = new StringBuilder();
        int points = 2 + upTo(6);
        boolean late = upTo(5) == 0;
        text.append(late ? "" : "points" + blank() + points + ";");
        int arcs = upTo(4) == 0 ? upTo(15) : 4 + upTo(11);
        int costs = upTo(2) == 0 ? 4 : 99;
        int bounds = upTo(3) == 0 ? 3 : 99;
        for (int a = 0; a < arcs; a++) {
            int from = upTo(points);
            int to = (from + 1 + upTo(points - 1)) % points;
            text.append(upTo(4) == 0 ? "gain" : "arc").append(blank()).append(digits(from)).append(' ');
            text.append(digits(to)).append(' ').append(digits(number(bounds))).append(blank().isEmpty() ? '\n' : ' ');
            text.append(digits(number(costs))).append(upTo(5) == 0 ? " ;\n" : ";");
            if (upTo(12) == 0) {
                text.append("block ").append(upTo(a + 1)).append(';');
            }
        }
        int sum = 0;
        for (int p = 0; p < points - 1 && upTo(8) != 0; p++) {
            int much = number(25) - number(25);
            if (Math.abs(sum + much) <= 99) {
                text.append(much < 0 ? "want " : "supply ").append(p).append(' ').append(Math.abs(much)).append(';');
                sum += much;
            }
        }
        text.append(sum > 0 ? "want " : "supply ").append(points - 1).append(' ').append(Math.abs(sum)).append(';');
        text.append(late ? "points " + points + ";" : "");
        text.append(new String[] {"first;", "steep;", "round;", ""}[upTo(4)]);
        return text.toString();
    }

    private String blank() {
        return upTo(6) == 0 ? "" : upTo(6) == 0 ? " \n" : " ";
    }

    private String digits(int n) {
        return n < 10 && upTo(8) == 0 ? "0" + n : "" + n;
    }

    private String orderText() {
        StringBuilder text = new StringBuilder();
        for (int i = upTo(6); i >= 0; i--) {
            String arc = " " + Math.max(anArc(), 0);
            switch (upTo(9)) {
                case 0 -> text.append("pivot ").append(number(61));
                case 1 -> text.append("shift ").append(Math.max(aPoint(), 0)).append(' ').append(Math.max(aPoint(), 0))
                    .append(' ').append(number(20));
                case 2 -> text.append("block").append(arc);
                case 3 -> text.append("open").append(arc);
                case 4 -> text.append("widen").append(arc).append(' ').append(number(99));
                case 5 -> text.append("charge").append(arc).append(' ').append(number(99));
                case 6 -> text.append("gain").append(arc).append(' ').append(number(99));
                case 7 -> text.append("cold");
                default -> text.append(new String[] {"first", "steep", "round"}[upTo(3)]);
            }
            text.append(';');
        }
        return text.toString();
    }

    private String spoilt(String text) {
        StringBuilder spoilt = new StringBuilder(text);
        for (int i = upTo(3); i >= 0; i--) {
            int at = upTo(spoilt.length() + 1);
            if (upTo(3) == 0 && at < spoilt.length()) {
                spoilt.deleteCharAt(at);
            } else {
                spoilt.insert(at, SCRAPS[upTo(SCRAPS.length)]);
            }
        }
        return spoilt.toString();
    }

    private void readText(boolean orders) {
        String text = orders ? orderText() : gridText();
        if (upTo(3) == 0) {
            text = spoilt(text);
        }
        tell(text);
        if (orders ^ upTo(30) == 0) {
            due("work()", x.work(), slow.work());
        } else {
            due("lay()", x.lay(), slow.lay());
        }
        due("fault(false)", x.fault(false), slow.fault(false));
        due("fault(true)", x.fault(true), slow.fault(true));
    }

    private void act() {
        int a = anArc();
        int p = aPoint();
        int q = aPoint();
        int n = number(99);
        switch (upTo(22)) {
            case 0 -> readText(false);
            case 1, 2 -> readText(true);
            case 3, 4, 5, 6 -> due("pivot()", x.pivot(), slow.pivot());
            case 7 -> {
                int most = upTo(5) == 0 ? upTo(63) : 1 + upTo(4);
                due("pivots(" + most + ")", x.pivots(most), slow.pivots(most));
            }
            case 8 -> due("pivots(60)", x.pivots(60), slow.pivots(60));
            case 9 -> {
                int r = upTo(5) - 1;
                due("rule(" + r + ")", x.rule(r), slow.rule(r));
            }
            case 10, 11 -> due("shift(" + p + "," + q + "," + n + ")", x.shift(p, q, n), slow.shift(p, q, n));
            case 12 -> due("block(" + a + ",false)", x.block(a, false), slow.block(a, false));
            case 13 -> due("block(" + a + ",true)", x.block(a, true), slow.block(a, true));
            case 14 -> due("widen(" + a + "," + n + ")", x.widen(a, n), slow.widen(a, n));
            case 15, 16 -> {
                int c = upTo(3) == 0 ? upTo(205) - 102 : n;
                due("charge(" + a + "," + c + ")", x.charge(a, c), slow.charge(a, c));
            }
            case 17 -> {
                if (upTo(3) == 0) {
                    x.cold();
                    slow.cold();
                }
            }
            case 18, 19 -> due("undo()", x.undo(), slow.undo());
            case 20 -> {
                int k = upTo(5) - 1;
                due("image(" + k + ")", x.image(k), slow.image(k));
            }
            default -> {
                int k = upTo(5) - 1;
                if (upTo(2) == 0) {
                    due("again(" + k + ")", x.again(k), slow.again(k));
                }
            }
        }
    }

    private long arcOf(boolean fast, int a, int what) {
        try {
            return fast ? x.arc(a, what) : slow.arc(a, what);
        } catch (NoSuchElementException none) {
            return Long.MIN_VALUE;
        }
    }

    private long pointOf(boolean fast, int p, int what) {
        try {
            return fast ? x.point(p, what) : slow.point(p, what);
        } catch (NoSuchElementException none) {
            return Long.MIN_VALUE;
        }
    }

    private void askAll() {
        for (int w = -1; w <= 12; w++) {
            due("grid(" + w + ")", x.grid(w), slow.grid(w));
        }
        for (int w = -1; w <= 19; w++) {
            due("next(" + w + ")", x.next(w), slow.next(w));
        }
        for (int k = -2; k <= 14; k++) {
            for (int w = -1; w <= 3; w++) {
                due("past(" + k + "," + w + ")", x.past(k, w), slow.past(k, w));
            }
            due("ledger(" + k + ",false)", x.ledger(k, false), slow.ledger(k, false));
            due("ledger(" + k + ",true)", x.ledger(k, true), slow.ledger(k, true));
            due("thread(" + k + ")", x.thread(k), slow.thread(k));
            due("apart(" + k + ")", x.apart(k), slow.apart(k));
            for (int w = -1; w <= 18; w++) {
                due("trip(" + k + "," + w + ")", x.trip(k, w), slow.trip(k, w));
            }
        }
        askArcs();
        askPoints();
        due("least()", x.least(), slow.least());
        due("lack()", x.lack(), slow.lack());
        due("cut()", x.cut(), slow.cut());
        for (int r = -1; r <= 3; r++) {
            due("steps(" + r + ")", x.steps(r), slow.steps(r));
        }
        for (int s : new int[] {0, 1, -1, 7, 20000, -65536, 1 << 20, Integer.MAX_VALUE, Integer.MIN_VALUE}) {
            due("bill(" + s + ")", x.bill(s), slow.bill(s));
        }
    }

    private void askArcs() {
        for (int a = -1; a <= slow.grid(1); a++) {
            for (int w = -1; w <= 8; w++) {
                due("arc(" + a + "," + w + ")", arcOf(true, a, w), arcOf(false, a, w));
            }
            due("span(" + a + ",false)", x.span(a, false), slow.span(a, false));
            due("span(" + a + ",true)", x.span(a, true), slow.span(a, true));
            for (int w = -1; w <= 3; w++) {
                due("worth(" + a + "," + w + ")", x.worth(a, w), slow.worth(a, w));
            }
        }
    }

    private void askPoints() {
        for (int p = -1; p <= slow.grid(0); p++) {
            for (int w = -1; w <= 7; w++) {
                due("point(" + p + "," + w + ")", pointOf(true, p, w), pointOf(false, p, w));
            }
            for (int q = -1; q <= slow.grid(0); q++) {
                due("wide(" + p + "," + q + ")", x.wide(p, q), slow.wide(p, q));
                due("toll(" + p + "," + q + ")", x.toll(p, q), slow.toll(p, q));
                for (int w = -1; w <= 18; w++) {
                    String call = "path(" + p + "," + q + "," + w + ")";
                    due(call, x.path(p, q, w), slow.path(p, q, w));
                }
            }
        }
    }
}
