import java.util.ArrayDeque;
import java.util.ArrayList;
import java.util.Arrays;
import java.util.HashSet;
import java.util.LinkedList;
import java.util.List;
import java.util.NoSuchElementException;
import java.util.Set;
import java.util.TreeMap;

/**
 * The document once more, in another form: everything is found anew from its definition at each question, by search
 * and trial, without care for speed. Tests hold the class against it.
 */
final class SlowModel {
    private static final int NONE = -1;

    /** An arc or a loan; -1 as an end is the ROOT. */
    private static final class Line {
        int told;
        int from;
        int to;
        int bound;
        int cost;
        int flow;
        boolean blocked;
        boolean full;
        boolean inTree;
        boolean loan;

        Line copy() {
            Line c = new Line();
            c.told = told;
            c.from = from;
            c.to = to;
            c.bound = bound;
            c.cost = cost;
            c.flow = flow;
            c.blocked = blocked;
            c.full = full;
            c.inTree = inTree;
            c.loan = loan;
            return c;
        }

        Long room(boolean along) {
            if (!along) {
                return (long) flow;
            }
            return loan ? null : Long.valueOf(bound - flow);
        }
    }

    private record Step(Line line, boolean along) { }

    private record Pivot(int entered, int left, int delta) { }

    private static final class Plan {
        int[] supply = new int[2];
        List<Line> arcs = new ArrayList<>();
        List<Line> loans = new ArrayList<>();
        int rule;
        LinkedList<Pivot> done = new LinkedList<>();
        int began;

        Plan copy() {
            Plan c = new Plan();
            c.supply = supply.clone();
            for (Line a : arcs) {
                c.arcs.add(a.copy());
            }
            for (Line l : loans) {
                c.loans.add(l.copy());
            }
            c.rule = rule;
            c.done = new LinkedList<>(done);
            c.began = began;
            return c;
        }

        List<Line> tree() {
            List<Line> t = new ArrayList<>();
            for (Line a : arcs) {
                if (a.inTree) {
                    t.add(a);
                }
            }
            for (Line l : loans) {
                if (l.inTree) {
                    t.add(l);
                }
            }
            return t;
        }

        int lacking(int p) {
            int rest = supply[p];
            for (Line a : arcs) {
                rest += a.to == p ? a.flow : 0;
                rest -= a.from == p ? a.flow : 0;
            }
            return rest;
        }

        void begin(boolean warm) {
            for (Line a : arcs) {
                a.full = warm && !a.blocked && a.bound > 0 && a.flow * 2 >= a.bound;
                a.flow = a.full ? a.bound : 0;
                a.inTree = false;
            }
            loans.clear();
            for (int p = 0; p < supply.length; p++) {
                Line l = new Line();
                int rest = lacking(p);
                l.told = 100 + p;
                l.from = rest < 0 ? -1 : p;
                l.to = rest < 0 ? p : -1;
                l.cost = 10000;
                l.flow = rest < 0 ? -rest : rest;
                l.loan = true;
                l.inTree = true;
                loans.add(l);
            }
            began++;
        }

        /** The steps in the tree from one to another (-1: the ROOT), found by search. */
        List<Step> way(int from, int to) {
            return search(from, to, new HashSet<>(Set.of(from)));
        }

        private List<Step> search(int at, int to, Set<Integer> seen) {
            if (at == to) {
                return new LinkedList<>();
            }
            for (Line l : tree()) {
                for (boolean along : new boolean[] {true, false}) {
                    int here = along ? l.from : l.to;
                    int there = along ? l.to : l.from;
                    if (here == at && seen.add(there)) {
                        List<Step> rest = search(there, to, seen);
                        if (rest != null) {
                            rest.add(0, new Step(l, along));
                            return rest;
                        }
                    }
                }
            }
            return null;
        }

        List<Integer> nodesUp(int p) {
            List<Integer> nodes = new ArrayList<>(List.of(p));
            for (Step s : way(p, -1)) {
                nodes.add(s.along ? s.line.to : s.line.from);
            }
            return nodes;
        }

        int price(int node) {
            int sum = 0;
            for (Step s : way(-1, node)) {
                sum += s.along ? s.line.cost : -s.line.cost;
            }
            return sum;
        }

        int reduced(Line a) {
            return a.cost + price(a.from) - price(a.to);
        }

        boolean offers(Line a) {
            if (a.inTree || a.blocked || a.bound == 0) {
                return false;
            }
            return a.full ? reduced(a) > 0 : reduced(a) < 0;
        }

        List<Line> offering() {
            List<Line> all = new ArrayList<>();
            for (Line a : arcs) {
                if (offers(a)) {
                    all.add(a);
                }
            }
            return all;
        }

        Line entering() {
            List<Line> all = offering();
            if (all.isEmpty()) {
                return null;
            }
            if (rule == 1) {
                Line best = all.get(0);
                for (Line a : all) {
                    if (Math.abs(reduced(a)) > Math.abs(reduced(best))) {
                        best = a;
                    }
                }
                return best;
            }
            if (rule == 2 && !done.isEmpty()) {
                for (Line a : all) {
                    if (a.told > done.getFirst().entered) {
                        return a;
                    }
                }
            }
            return all.get(0);
        }

        int join(Line in) {
            List<Integer> other = nodesUp(in.to);
            for (int node : nodesUp(in.from)) {
                if (other.contains(node)) {
                    return node;
                }
            }
            throw new IllegalStateException();
        }

        List<Step> cycle(Line in) {
            int a = in.full ? in.to : in.from;
            int b = in.full ? in.from : in.to;
            List<Step> all = new ArrayList<>(way(join(in), a));
            all.add(new Step(in, !in.full));
            all.addAll(way(b, join(in)));
            return all;
        }

        static Long leastRoom(List<Step> steps) {
            Long least = null;
            for (Step s : steps) {
                Long r = s.line.room(s.along);
                if (r != null && (least == null || r < least)) {
                    least = r;
                }
            }
            return least;
        }

        static Line leaving(List<Step> steps) {
            Line last = null;
            for (Step s : steps) {
                if (leastRoom(steps).equals(s.line.room(s.along))) {
                    last = s.line;
                }
            }
            return last;
        }

        int pivot() {
            Line in = entering();
            if (in == null) {
                return NONE;
            }
            List<Step> steps = cycle(in);
            Line out = leaving(steps);
            int delta = leastRoom(steps).intValue();
            for (Step s : steps) {
                s.line.flow += s.along ? delta : -delta;
            }
            if (in == out) {
                in.full = !in.full;
            } else {
                in.inTree = true;
                in.full = false;
                out.inTree = false;
                out.full = !out.loan && out.flow != 0;
            }
            done.addFirst(new Pivot(in.told, out.told, delta));
            return in.told;
        }

        int pivots(int n) {
            int made = 0;
            while (made < n && pivot() != NONE) {
                made++;
            }
            return made;
        }

        int unmet() {
            int all = 0;
            for (Line l : loans) {
                all += l.flow;
            }
            return all;
        }

        boolean two(int a, int b) {
            return a >= 0 && b >= 0 && a < supply.length && b < supply.length && a != b;
        }

        boolean has(int arc) {
            return arc >= 0 && arc < arcs.size();
        }

        boolean shift(int from, int to, int much) {
            if (!two(from, to) || much < 1 || much > 99) {
                return false;
            }
            if (supply[from] + much > 99 || supply[to] - much < -99) {
                return false;
            }
            supply[from] += much;
            supply[to] -= much;
            begin(true);
            return true;
        }

        boolean block(int arc, boolean open) {
            if (!has(arc) || arcs.get(arc).blocked != open) {
                return false;
            }
            arcs.get(arc).blocked = !open;
            begin(true);
            return true;
        }

        boolean widen(int arc, int bound) {
            if (!has(arc) || bound < 0 || bound > 99 || arcs.get(arc).bound == bound) {
                return false;
            }
            arcs.get(arc).bound = bound;
            begin(true);
            return true;
        }

        boolean charge(int arc, int cost) {
            if (!has(arc) || cost < -99 || cost > 99 || arcs.get(arc).cost == cost) {
                return false;
            }
            arcs.get(arc).cost = cost;
            return true;
        }

        void addArc(int from, int to, int bound, int cost) {
            Line a = new Line();
            a.told = arcs.size();
            a.from = from;
            a.to = to;
            a.bound = bound;
            a.cost = cost;
            arcs.add(a);
        }

        /** The greatest flow of what is supplied to what is wanted, by arcs alone, leaving flows in x. */
        int carried(int[] x) {
            int n = supply.length;
            int all = 0;
            int[] rest = supply.clone();
            while (true) {
                int[] by = new int[n];
                Arrays.fill(by, Integer.MIN_VALUE);
                ArrayDeque<Integer> queue = new ArrayDeque<>();
                for (int p = 0; p < n; p++) {
                    if (rest[p] > 0) {
                        queue.add(p);
                        by[p] = Integer.MAX_VALUE;
                    }
                }
                int end = -1;
                while (!queue.isEmpty() && end < 0) {
                    int p = queue.remove();
                    if (rest[p] < 0) {
                        end = p;
                    }
                    for (Line a : arcs) {
                        if (!a.blocked && a.from == p && x[a.told] < a.bound && by[a.to] == Integer.MIN_VALUE) {
                            by[a.to] = a.told;
                            queue.add(a.to);
                        }
                        if (a.to == p && x[a.told] > 0 && by[a.from] == Integer.MIN_VALUE) {
                            by[a.from] = -1 - a.told;
                            queue.add(a.from);
                        }
                    }
                }
                if (end < 0) {
                    return all;
                }
                // One at a time is slow and plain.
                rest[end]++;
                int at = end;
                while (by[at] != Integer.MAX_VALUE) {
                    if (by[at] >= 0) {
                        x[by[at]]++;
                        at = arcs.get(by[at]).from;
                    } else {
                        x[-1 - by[at]]--;
                        at = arcs.get(-1 - by[at]).to;
                    }
                }
                rest[at]--;
                all++;
            }
        }

        int supplied() {
            int all = 0;
            for (int s : supply) {
                all += Math.max(s, 0);
            }
            return all;
        }

        /** A plan is found first, then rings of negative cost are taken out of it till there is none. */
        Integer least() {
            int[] x = new int[arcs.size()];
            if (carried(x) < supplied()) {
                return null;
            }
            while (true) {
                int n = supply.length;
                int[] far = new int[n];
                int[] by = new int[n];
                int changed = -1;
                for (int round = 0; round <= n; round++) {
                    changed = -1;
                    for (Line a : arcs) {
                        if (!a.blocked && x[a.told] < a.bound && far[a.from] + a.cost < far[a.to]) {
                            far[a.to] = far[a.from] + a.cost;
                            by[a.to] = a.told;
                            changed = a.to;
                        }
                        if (x[a.told] > 0 && far[a.to] - a.cost < far[a.from]) {
                            far[a.from] = far[a.to] - a.cost;
                            by[a.from] = -1 - a.told;
                            changed = a.from;
                        }
                    }
                }
                if (changed < 0) {
                    break;
                }
                int at = changed;
                for (int i = 0; i < n; i++) {
                    at = by[at] >= 0 ? arcs.get(by[at]).from : arcs.get(-1 - by[at]).to;
                }
                int start = at;
                do {
                    if (by[at] >= 0) {
                        x[by[at]]++;
                        at = arcs.get(by[at]).from;
                    } else {
                        x[-1 - by[at]]--;
                        at = arcs.get(-1 - by[at]).to;
                    }
                } while (at != start);
            }
            int sum = 0;
            for (Line a : arcs) {
                sum += x[a.told] * a.cost;
            }
            return sum;
        }

        List<List<Integer>> trips() {
            List<List<Integer>> all = new ArrayList<>();
            int[] left = new int[arcs.size()];
            for (Line a : arcs) {
                left[a.told] = a.flow;
            }
            while (Arrays.stream(left).sum() > 0) {
                int n = supply.length;
                int[] out = new int[n];
                int[] in = new int[n];
                for (Line a : arcs) {
                    out[a.from] += left[a.told];
                    in[a.to] += left[a.told];
                }
                int start = -1;
                for (int p = 0; p < n && start < 0; p++) {
                    start = out[p] > in[p] ? p : -1;
                }
                for (int p = 0; p < n && start < 0; p++) {
                    start = out[p] > 0 ? p : -1;
                }
                List<Integer> nodes = new ArrayList<>();
                List<Integer> trip = new ArrayList<>();
                int at = start;
                while (true) {
                    int seen = nodes.indexOf(at);
                    if (seen >= 0) {
                        trip = new ArrayList<>(trip.subList(seen, trip.size()));
                        break;
                    }
                    nodes.add(at);
                    Line by = null;
                    for (Line a : arcs) {
                        if (by == null && a.from == at && left[a.told] > 0) {
                            by = a;
                        }
                    }
                    if (by == null) {
                        break;
                    }
                    trip.add(by.told);
                    at = by.to;
                }
                int much = 100;
                for (int a : trip) {
                    much = Math.min(much, left[a]);
                }
                for (int a : trip) {
                    left[a] -= much;
                }
                trip.add(0, much);
                all.add(trip);
            }
            return all;
        }

        int room(int from, int to) {
            int best = 0;
            for (Line a : arcs) {
                if (!a.blocked && a.from == from && a.to == to) {
                    best = Math.max(best, a.bound - a.flow);
                }
                if (!a.blocked && a.to == from && a.from == to) {
                    best = Math.max(best, a.flow);
                }
            }
            return best;
        }

        int wide(int at, int to, int least, Set<Integer> seen) {
            if (at == to) {
                return least;
            }
            int best = 0;
            for (int p = 0; p < supply.length; p++) {
                if (room(at, p) > 0 && seen.add(p)) {
                    best = Math.max(best, wide(p, to, Math.min(least, room(at, p)), seen));
                    seen.remove(p);
                }
            }
            return best;
        }

        int worthOf(int set) {
            int sum = 0;
            for (int p = 0; p < supply.length; p++) {
                sum += (set & 1 << p) != 0 ? supply[p] : 0;
            }
            for (Line a : arcs) {
                sum -= !a.blocked && (set & 1 << a.from) != 0 && (set & 1 << a.to) == 0 ? a.bound : 0;
            }
            return sum;
        }

        void walkDown(int node, List<Integer> order) {
            for (int p = 0; p < supply.length; p++) {
                List<Integer> up = nodesUp(p);
                if (up.get(1) == node) {
                    order.add(p);
                    walkDown(p, order);
                }
            }
        }
    }

    private static final class Image {
        Plan plan;
        String text;
        int fault;
        int place;
    }

    private Plan plan = new Plan();
    private String text = "";
    private int fault = 0;
    private int place = NONE;
    private LinkedList<Plan> undo = new LinkedList<>();
    private final Image[] images = new Image[3];

    SlowModel() {
        plan.begin(false);
        plan.began = 0;
    }

    int spell(long eight) {
        StringBuilder more = new StringBuilder();
        for (int i = 7; i >= 0; i--) {
            int b = (int) (eight >> 8 * i) & 255;
            if (b == 0) {
                break;
            }
            more.append((char) b);
        }
        if (text.length() + more.length() > 400) {
            return NONE;
        }
        text += more;
        return text.length();
    }

    private record Token(String what, int at) {
        boolean isNumber() {
            return what.matches("[0-9]{1,2}");
        }

        int value() {
            return Integer.parseInt(what);
        }
    }

    private static List<Token> tokens(String text) {
        List<Token> all = new ArrayList<>();
        java.util.regex.Matcher m = java.util.regex.Pattern.compile("[a-z]+|[0-9]+|[^ \n]", 0).matcher(text);
        while (m.find()) {
            all.add(new Token(m.group(), m.start()));
        }
        return all;
    }

    private static final String[] GRID = {"points 1", "arc 4", "gain 4", "supply 2", "want 2", "block 1", "first 0",
        "steep 0", "round 0"};
    private static final String[] ORDERS = {"pivot 1", "shift 3", "block 1", "open 1", "widen 2", "charge 2", "gain 2",
        "cold 0", "first 0", "steep 0", "round 0"};

    private List<List<Token>> lines(String[] forms) {
        List<List<Token>> lines = new ArrayList<>();
        List<Token> line = new ArrayList<>();
        int numbers = 0;
        for (Token t : tokens(text)) {
            boolean good;
            if (line.isEmpty()) {
                numbers = -1;
                for (String f : forms) {
                    if (f.substring(0, f.length() - 2).equals(t.what)) {
                        numbers = f.charAt(f.length() - 1) - '0';
                    }
                }
                good = numbers >= 0;
            } else if (line.size() <= numbers) {
                good = t.isNumber();
            } else {
                good = t.what.equals(";");
            }
            if (!good) {
                blame(1, t.at);
                return null;
            }
            line.add(t);
            if (t.what.equals(";")) {
                lines.add(line);
                line = new ArrayList<>();
            }
        }
        if (!line.isEmpty()) {
            blame(1, text.length());
            return null;
        }
        return lines;
    }

    private void blame(int kind, int at) {
        if (fault == 0) {
            fault = kind;
            place = at;
        }
    }

    private void limit(Token t, int low, int high, int kind) {
        if (t.value() < low || t.value() > high) {
            blame(kind, t.at);
        }
    }

    private static boolean isOneOf(Token t, String... words) {
        return Arrays.asList(words).contains(t.what);
    }

    int lay() {
        fault = 0;
        place = NONE;
        List<List<Token>> lines = lines(GRID);
        Plan told = lines == null ? null : readGrid(lines);
        text = "";
        if (fault != 0) {
            return NONE;
        }
        plan = told;
        plan.begin(false);
        plan.began = 0;
        undo.clear();
        return plan.arcs.size();
    }

    private Plan readGrid(List<List<Token>> lines) {
        int arcs = 0;
        int points = 2;
        for (List<Token> l : lines) {
            Token word = l.get(0);
            if (isOneOf(word, "points")) {
                limit(l.get(1), 2, 7, 2);
                points = l.get(1).value();
            }
            if (isOneOf(word, "arc", "gain")) {
                arcs++;
                if (arcs > 14) {
                    blame(2, word.at);
                }
                limit(l.get(1), 0, 6, 2);
                limit(l.get(2), 0, 6, 2);
                if (l.get(1).value() == l.get(2).value()) {
                    blame(2, l.get(2).at);
                }
            }
            if (isOneOf(word, "supply", "want")) {
                limit(l.get(1), 0, 6, 2);
            }
            if (isOneOf(word, "block")) {
                limit(l.get(1), 0, arcs - 1, 2);
            }
        }
        if (fault != 0) {
            return null;
        }
        for (List<Token> l : lines) {
            if (isOneOf(l.get(0), "arc", "gain", "supply", "want")) {
                limit(l.get(1), 0, points - 1, 3);
            }
            if (isOneOf(l.get(0), "arc", "gain")) {
                limit(l.get(2), 0, points - 1, 3);
            }
        }
        if (fault != 0) {
            return null;
        }
        Plan told = new Plan();
        told.supply = new int[points];
        for (List<Token> l : lines) {
            switch (l.get(0).what) {
                case "arc" -> told.addArc(l.get(1).value(), l.get(2).value(), l.get(3).value(), l.get(4).value());
                case "gain" -> told.addArc(l.get(1).value(), l.get(2).value(), l.get(3).value(), -l.get(4).value());
                case "supply" -> told.supply[l.get(1).value()] = l.get(2).value();
                case "want" -> told.supply[l.get(1).value()] = -l.get(2).value();
                case "block" -> told.arcs.get(l.get(1).value()).blocked = true;
                case "first" -> told.rule = 0;
                case "steep" -> told.rule = 1;
                case "round" -> told.rule = 2;
                default -> { }
            }
        }
        if (Arrays.stream(told.supply).sum() != 0) {
            blame(4, text.length());
        }
        return told;
    }

    int fault(boolean where) {
        return where ? place : fault;
    }

    private void keep(Plan before) {
        undo.addFirst(before);
        while (undo.size() > 10) {
            undo.removeLast();
        }
    }

    private boolean kept(Plan before, boolean done) {
        if (done) {
            keep(before);
        }
        return done;
    }

    int pivot() {
        Plan before = plan.copy();
        int in = plan.pivot();
        kept(before, in != NONE);
        return in;
    }

    int pivots(int n) {
        if (n < 1 || n > 60) {
            return NONE;
        }
        Plan before = plan.copy();
        int made = plan.pivots(n);
        kept(before, made > 0);
        return made;
    }

    boolean rule(int rule) {
        if (rule < 0 || rule > 2) {
            return false;
        }
        keep(plan.copy());
        plan.rule = rule;
        return true;
    }

    boolean shift(int from, int to, int much) {
        Plan before = plan.copy();
        return kept(before, plan.shift(from, to, much));
    }

    boolean block(int arc, boolean open) {
        Plan before = plan.copy();
        return kept(before, plan.block(arc, open));
    }

    boolean widen(int arc, int bound) {
        Plan before = plan.copy();
        return kept(before, plan.widen(arc, bound));
    }

    boolean charge(int arc, int cost) {
        Plan before = plan.copy();
        return kept(before, plan.charge(arc, cost));
    }

    void cold() {
        keep(plan.copy());
        plan.begin(false);
    }

    int work() {
        fault = 0;
        place = NONE;
        List<List<Token>> lines = lines(ORDERS);
        text = "";
        if (fault != 0) {
            return NONE;
        }
        for (List<Token> l : lines) {
            switch (l.get(0).what) {
                case "pivot" -> limit(l.get(1), 1, 60, 2);
                case "shift" -> {
                    limit(l.get(1), 0, 6, 2);
                    limit(l.get(2), 0, 6, 2);
                    limit(l.get(3), 1, 99, 2);
                }
                case "block", "open", "widen", "charge", "gain" -> limit(l.get(1), 0, 13, 2);
                default -> { }
            }
        }
        if (fault != 0) {
            return NONE;
        }
        Plan before = plan.copy();
        int done = 0;
        while (done < lines.size() && obey(lines.get(done))) {
            done++;
        }
        kept(before, done > 0);
        return done;
    }

    private boolean obey(List<Token> l) {
        int[] n = new int[4];
        for (int i = 1; i < l.size() - 1; i++) {
            n[i - 1] = l.get(i).value();
        }
        switch (l.get(0).what) {
            case "pivot":
                return plan.pivots(n[0]) > 0;
            case "shift":
                return plan.shift(n[0], n[1], n[2]);
            case "block":
                return plan.block(n[0], false);
            case "open":
                return plan.block(n[0], true);
            case "widen":
                return plan.widen(n[0], n[1]);
            case "charge":
                return plan.charge(n[0], n[1]);
            case "gain":
                return plan.charge(n[0], -n[1]);
            case "cold":
                plan.begin(false);
                return true;
            case "first":
                plan.rule = 0;
                return true;
            case "steep":
                plan.rule = 1;
                return true;
            default:
                plan.rule = 2;
                return true;
        }
    }

    int undo() {
        if (undo.isEmpty()) {
            return NONE;
        }
        plan = undo.removeFirst();
        return undo.size();
    }

    int grid(int what) {
        switch (what) {
            case 0: return plan.supply.length;
            case 1: return plan.arcs.size();
            case 2: return plan.rule;
            case 3: return plan.offering().isEmpty() ? 1 : 0;
            case 4: return plan.unmet();
            case 5: return plan.done.size();
            case 6: return (int) plan.done.stream().filter(p -> p.delta == 0).count();
            case 7: return plan.began;
            case 8: return plan.done.isEmpty() ? NONE : plan.done.getFirst().entered;
            case 9: return plan.offering().size();
            case 10: return text.length();
            case 11: return undo.size();
            default: return NONE;
        }
    }

    int arc(int arc, int what) {
        if (!plan.has(arc)) {
            throw new NoSuchElementException();
        }
        Line a = plan.arcs.get(arc);
        switch (what) {
            case 0: return a.from;
            case 1: return a.to;
            case 2: return a.bound;
            case 3: return a.cost;
            case 4: return a.flow;
            case 5: return a.blocked ? 3 : a.inTree ? 2 : a.full ? 1 : 0;
            case 6: return plan.reduced(a);
            case 7: return plan.offers(a) ? 1 : 0;
            default: throw new NoSuchElementException();
        }
    }

    int point(int point, int what) {
        if (point < 0 || point >= plan.supply.length) {
            throw new NoSuchElementException();
        }
        int up = plan.nodesUp(point).get(1);
        switch (what) {
            case 0: return plan.supply[point];
            case 1: return plan.price(point);
            case 2: return up < 0 ? plan.supply.length : up;
            case 3: return plan.way(point, -1).get(0).line.told;
            case 4: return plan.way(point, -1).size();
            case 5:
                int n = 0;
                for (int p = 0; p < plan.supply.length; p++) {
                    n += plan.nodesUp(p).contains(point) ? 1 : 0;
                }
                return n;
            case 6:
                Line l = plan.loans.get(point);
                return l.to == -1 ? l.flow : -l.flow;
            default: throw new NoSuchElementException();
        }
    }

    int thread(int k) {
        List<Integer> order = new ArrayList<>();
        plan.walkDown(-1, order);
        return k >= 0 && k < order.size() ? order.get(k) : NONE;
    }

    int path(int from, int to, int what) {
        if (!plan.two(from, to)) {
            return -1000;
        }
        List<Step> way = plan.way(from, to);
        if (what == 0) {
            return way.size();
        }
        if (what == 1) {
            Long r = Plan.leastRoom(way);
            return r == null ? NONE : r.intValue();
        }
        if (what == 2) {
            return way.stream().mapToInt(s -> s.along ? s.line.cost : -s.line.cost).sum();
        }
        return what >= 10 && what - 10 < way.size() ? way.get(what - 10).line.told : -1000;
    }

    int next(int what) {
        Line in = plan.entering();
        if (in == null) {
            return NONE;
        }
        List<Step> cycle = plan.cycle(in);
        switch (what) {
            case 0: return in.told;
            case 1: return Plan.leaving(cycle).told;
            case 2: return Plan.leastRoom(cycle).intValue();
            case 3: return plan.join(in) < 0 ? plan.supply.length : plan.join(in);
            case 4: return cycle.size();
            default: return what >= 10 && what - 10 < cycle.size() ? cycle.get(what - 10).line.told : NONE;
        }
    }

    int past(int k, int what) {
        if (k < 0 || k > 11 || k >= plan.done.size()) {
            return NONE;
        }
        Pivot p = plan.done.get(k);
        return what == 0 ? p.entered : what == 1 ? p.left : what == 2 ? p.delta : NONE;
    }

    int bill(int scale) {
        java.math.BigInteger sum = java.math.BigInteger.ZERO;
        for (Line a : plan.arcs) {
            sum = sum.add(java.math.BigInteger.valueOf((long) a.flow * a.cost));
        }
        sum = sum.multiply(java.math.BigInteger.valueOf(scale));
        return sum.bitLength() > 31 ? Integer.MIN_VALUE : sum.intValue();
    }

    int ledger(int k, boolean much) {
        TreeMap<Integer, Integer> rows = new TreeMap<>();
        for (Line a : plan.arcs) {
            if (a.flow > 0) {
                rows.merge(a.cost, a.flow, Integer::sum);
            }
        }
        if (k == NONE) {
            return rows.size();
        }
        if (k < 0 || k >= rows.size()) {
            return -1000;
        }
        int cost = new ArrayList<>(rows.keySet()).get(k);
        return much ? rows.get(cost) : cost;
    }

    int wide(int from, int to) {
        if (!plan.two(from, to)) {
            return NONE;
        }
        return plan.wide(from, to, Integer.MAX_VALUE, new HashSet<>(Set.of(from)));
    }

    int trip(int k, int what) {
        List<List<Integer>> trips = plan.trips();
        if (k == NONE) {
            return what == 0 ? trips.size() : NONE;
        }
        if (k < 0 || k >= trips.size()) {
            return NONE;
        }
        List<Integer> t = trips.get(k);
        if (what == 0) {
            return t.get(0);
        }
        if (what == 1) {
            return t.size() - 1;
        }
        return what >= 10 && what - 10 < t.size() - 1 ? t.get(what - 9) : NONE;
    }

    int apart(int k) {
        if (k < 0 || k > 2 || images[k] == null) {
            return NONE;
        }
        int n = 0;
        for (int a = 0; a < 14; a++) {
            int here = plan.has(a) ? plan.arcs.get(a).flow : 0;
            int there = images[k].plan.has(a) ? images[k].plan.arcs.get(a).flow : 0;
            n += here != there ? 1 : 0;
        }
        return n;
    }

    int span(int arc, boolean high) {
        if (!plan.has(arc) || !plan.offering().isEmpty()) {
            return -1000;
        }
        Line a = plan.arcs.get(arc);
        int kept = a.cost;
        int step = high ? -1 : 1;
        int found = 99 * -step;
        for (a.cost = found; !plan.offering().isEmpty(); a.cost += step) {
            found = a.cost + step;
        }
        a.cost = kept;
        return found;
    }

    int least() {
        Integer sum = plan.least();
        return sum == null ? -1000000 : sum;
    }

    int lack() {
        return 2 * (plan.supplied() - plan.carried(new int[plan.arcs.size()]));
    }

    int cut() {
        int best = 0;
        for (int size = 0; size <= plan.supply.length; size++) {
            for (int set = 0; set < 1 << plan.supply.length; set++) {
                if (Integer.bitCount(set) == size && plan.worthOf(set) > plan.worthOf(best)) {
                    best = set;
                }
            }
        }
        return best;
    }

    int steps(int rule) {
        if (rule < 0 || rule > 2) {
            return NONE;
        }
        Plan other = plan.copy();
        other.rule = rule;
        return other.pivots(1000000);
    }

    private int change(Plan other) {
        Integer now = plan.least();
        Integer then = other.least();
        return now == null || then == null ? -1000000 : then - now;
    }

    int worth(int arc, int what) {
        if (!plan.has(arc) || what < 0 || what > 2) {
            return -1000000;
        }
        Plan other = plan.copy();
        Line a = other.arcs.get(arc);
        if (what == 0) {
            a.bound++;
        } else if (what == 1) {
            a.blocked = true;
        } else {
            a.cost++;
        }
        return change(other);
    }

    int toll(int from, int to) {
        if (!plan.two(from, to)) {
            return -1000000;
        }
        Plan other = plan.copy();
        other.supply[from]++;
        other.supply[to]--;
        return change(other);
    }

    boolean image(int k) {
        if (k < 0 || k > 2) {
            return false;
        }
        images[k] = new Image();
        images[k].plan = plan.copy();
        images[k].text = text;
        images[k].fault = fault;
        images[k].place = place;
        return true;
    }

    boolean again(int k) {
        if (k < 0 || k > 2 || images[k] == null) {
            return false;
        }
        plan = images[k].plan.copy();
        text = images[k].text;
        fault = images[k].fault;
        place = images[k].place;
        undo = new LinkedList<>();
        return true;
    }}
