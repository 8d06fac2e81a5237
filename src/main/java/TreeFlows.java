import java.util.NoSuchElementException;

/** Least-cost flows by trees. The document (DOC.md) says what each call promises; its words are used here. */
public final class TreeFlows {
    public static final int NONE = -1;

    private static final int MOST_POINTS = 7;
    private static final int MOST_ARCS = 14;
    private static final int MOST_NUMBER = 99;
    private static final int MOST_PIVOTS = 60;
    private static final int MOST_BYTES = 400;
    // No line of a text is shorter than "cold;".
    private static final int MOST_LINES = MOST_BYTES / 5;
    private static final int NUMBERS_A_LINE = 4;
    private static final int MOST_UNDO = 10;
    private static final int UNDO_ROWS = MOST_UNDO + 1;
    private static final int IMAGES = 3;
    private static final int PAST_KEPT = 12;

    // The ROOT has a fixed place behind all points that there may be; toldNode() gives its number by the document.
    private static final int ROOT = MOST_POINTS;
    private static final int NODES = MOST_POINTS + 1;
    // An edge is an arc (0 to 13) or a loan (14 and its point): rooms, prices and ways treat both alike.
    private static final int EDGES = MOST_ARCS + MOST_POINTS;
    private static final int LOAN_TOLD = 100;
    private static final int LOAN_COST = 10000;
    // Above every flow that there can be, so that an edge with this room never is the narrowest of a cycle.
    private static final int NO_BOUND = 1000000;
    // Far above the pivots that so small a grid can need.
    private static final int PIVOT_LIMIT = 1000000;

    private static final int EMPTY = 0;
    private static final int FULL = 1;
    private static final int IN_TREE = 2;
    private static final int BLOCKED = 3;

    private static final int FIRST = 0;
    private static final int STEEP = 1;
    private static final int ROUND = 2;

    private static final int NOT_TOLD = -1000;
    private static final int NO_PLAN = -1000000;
    private static final int LISTED = 10;

    private final Net net = new Net();
    // Questions of what would be are tried out here, so that the grid itself stays as it is.
    private final Net trial = new Net();
    private final Route route = new Route();
    private final Trips trips = new Trips();
    private final Page page = new Page();
    private final Script script = new Script();
    private final int[] reach = new int[MOST_POINTS];
    // One row more than can be undone: the row at undoTop is free to take the grid ahead of an act.
    private final Net[] undoRows = new Net[UNDO_ROWS];
    private int undoTop;
    private int undoCount;
    private final Net[] imageNets = new Net[IMAGES];
    private final Page[] imagePages = new Page[IMAGES];
    private final boolean[] imageThere = new boolean[IMAGES];

    public TreeFlows() {
        for (int i = 0; i < UNDO_ROWS; i++) {
            undoRows[i] = new Net();
        }
        for (int k = 0; k < IMAGES; k++) {
            imageNets[k] = new Net();
            imagePages[k] = new Page();
        }
        net.clear(2);
        net.begin(false);
        net.tally.clear();
    }

    public int spell(long eight) {
        int more = 0;
        while (more < 8 && byteOf(eight, more) != 0) {
            more++;
        }
        if (page.length + more > MOST_BYTES) {
            return NONE;
        }
        for (int i = 0; i < more; i++) {
            page.put(byteOf(eight, i));
        }
        return page.length;
    }

    public int lay() {
        script.read(page, false);
        if (script.fault == 0) {
            script.checkGrid(page.length);
        }
        takeFault();
        if (script.fault != 0) {
            return NONE;
        }
        script.fill(net);
        net.begin(false);
        net.tally.clear();
        undoCount = 0;
        return net.arcs;
    }

    public int fault(boolean place) {
        return place ? page.faultPlace : page.faultKind;
    }

    // ---- acts

    public int pivot() {
        saveAhead();
        int entered = route.step(net, net.ruleKept);
        countAct(entered != NONE);
        return entered;
    }

    public int pivots(int n) {
        if (n < 1 || n > MOST_PIVOTS) {
            return NONE;
        }
        saveAhead();
        int made = route.run(net, net.ruleKept, n);
        countAct(made > 0);
        return made;
    }

    public boolean rule(int rule) {
        saveAhead();
        return countAct(net.setRule(rule));
    }

    public boolean shift(int from, int to, int much) {
        saveAhead();
        return countAct(net.moveSupply(from, to, much));
    }

    public boolean block(int arc, boolean open) {
        saveAhead();
        return countAct(net.setOpen(arc, open));
    }

    public boolean widen(int arc, int bound) {
        saveAhead();
        return countAct(net.setBound(arc, bound));
    }

    public boolean charge(int arc, int cost) {
        saveAhead();
        return countAct(net.setCost(arc, cost));
    }

    public void cold() {
        saveAhead();
        net.begin(false);
        countAct(true);
    }

    public int work() {
        script.read(page, true);
        if (script.fault == 0) {
            script.checkOrders();
        }
        takeFault();
        if (script.fault != 0) {
            return NONE;
        }
        saveAhead();
        int done = 0;
        while (done < script.count && script.obey(done, net, route)) {
            done++;
        }
        countAct(done > 0);
        return done;
    }

    public int undo() {
        if (undoCount == 0) {
            return NONE;
        }
        undoTop = undoTop == 0 ? UNDO_ROWS - 1 : undoTop - 1;
        undoCount--;
        net.copyFrom(undoRows[undoTop]);
        return undoCount;
    }

    // ---- what there is

    public int grid(int what) {
        switch (what) {
            case 0:
                return net.points;
            case 1:
                return net.arcs;
            case 2:
                return net.ruleKept;
            case 3:
                return net.countOffers() == 0 ? 1 : 0;
            case 4:
                return net.unmet();
            case 5:
                return net.tally.pivotsMade;
            case 6:
                return net.tally.pivotsStill;
            case 7:
                return net.tally.begun;
            case 8:
                return net.tally.entered;
            case 9:
                return net.countOffers();
            case 10:
                return page.length;
            case 11:
                return undoCount;
            default:
                return NONE;
        }
    }

    public int arc(int arc, int what) throws NoSuchElementException {
        if (!net.hasArc(arc)) {
            throw new NoSuchElementException();
        }
        switch (what) {
            case 0:
                return net.tail[arc];
            case 1:
                return net.head[arc];
            case 2:
                return net.bound[arc];
            case 3:
                return net.cost[arc];
            case 4:
                return net.flow[arc];
            case 5:
                return net.state[arc];
            case 6:
                return net.reduced(arc);
            case 7:
                return net.offer(arc) > 0 ? 1 : 0;
            default:
                throw new NoSuchElementException();
        }
    }

    public int point(int point, int what) throws NoSuchElementException {
        if (!net.hasPoint(point)) {
            throw new NoSuchElementException();
        }
        switch (what) {
            case 0:
                return net.supply[point];
            case 1:
                return net.price[point];
            case 2:
                return net.toldNode(net.up[point]);
            case 3:
                return toldEdge(net.upEdge[point]);
            case 4:
                return net.depth(point);
            case 5:
                return net.countBelow(point);
            case 6:
                return net.loanFlow(point);
            default:
                throw new NoSuchElementException();
        }
    }

    public int thread(int k) {
        if (k < 0 || k >= net.points) {
            return NONE;
        }
        int at = net.childBehind(ROOT, NONE);
        for (int i = 0; i < k; i++) {
            at = net.threadBehind(at);
        }
        return at;
    }

    public int path(int from, int to, int what) {
        if (!net.hasTwoPoints(from, to)) {
            return NOT_TOLD;
        }
        route.way(net, from, to);
        switch (what) {
            case 0:
                return route.count;
            case 1:
                int room = route.leastRoom(net);
                return room >= NO_BOUND ? NONE : room;
            case 2:
                return route.cost(net);
            default:
                return route.told(what, NOT_TOLD);
        }
    }

    public int next(int what) {
        int entering = net.pick(net.ruleKept);
        if (entering == NONE) {
            return NONE;
        }
        route.cycle(net, entering);
        switch (what) {
            case 0:
                return entering;
            case 1:
                return toldEdge(route.leaving());
            case 2:
                return route.delta;
            case 3:
                return net.toldNode(route.join);
            case 4:
                return route.count;
            default:
                return route.told(what, NONE);
        }
    }

    public int past(int k, int what) {
        return net.tally.told(k, what);
    }

    public int bill(int scale) {
        long all = (long) net.spent() * scale;
        if (all < Integer.MIN_VALUE || all > Integer.MAX_VALUE) {
            return Integer.MIN_VALUE;
        }
        return (int) all;
    }

    public int ledger(int k, boolean much) {
        if (k < NONE) {
            return NOT_TOLD;
        }
        int rows = 0;
        int cost = net.flowingCostAbove(-MOST_NUMBER - 1);
        while (rows < MOST_ARCS && cost <= MOST_NUMBER) {
            if (rows == k) {
                return much ? net.flowAtCost(cost) : cost;
            }
            rows++;
            cost = net.flowingCostAbove(cost);
        }
        return k == NONE ? rows : NOT_TOLD;
    }

    public int wide(int from, int to) {
        if (!net.hasTwoPoints(from, to)) {
            return NONE;
        }
        for (int p = 0; p < net.points; p++) {
            reach[p] = 0;
        }
        reach[from] = NO_BOUND;
        // A row without a point twice is done after as many rounds as there are points.
        for (int turn = 1; turn < net.points; turn++) {
            net.spread(reach);
        }
        return reach[to];
    }

    public int trip(int k, int what) {
        trips.split(net);
        if (k == NONE) {
            return what == 0 ? trips.count : NONE;
        }
        return trips.told(k, what);
    }

    public int apart(int k) {
        return hasImage(k) ? net.countApart(imageNets[k]) : NONE;
    }

    // ---- what is best

    public int span(int arc, boolean high) {
        if (!net.hasArc(arc) || net.countOffers() > 0) {
            return NOT_TOLD;
        }
        return high ? net.highestCost(arc) : net.lowestCost(arc);
    }

    public int least() {
        trial.copyFrom(net);
        return leastOfTrial();
    }

    public int lack() {
        // What no way leads out of the worst set lacks twice: a loan takes it there, a loan gives it elsewhere.
        return 2 * net.shortOf(net.worstSet());
    }

    public int cut() {
        return net.worstSet();
    }

    public int steps(int rule) {
        if (!isRule(rule)) {
            return NONE;
        }
        trial.copyFrom(net);
        return route.run(trial, rule, PIVOT_LIMIT);
    }

    public int worth(int arc, int what) {
        if (!net.hasArc(arc) || what < 0 || what > 2) {
            return NO_PLAN;
        }
        trial.copyFrom(net);
        int now = leastOfTrial();
        trial.copyFrom(net);
        if (what == 0) {
            trial.bound[arc]++;
        } else if (what == 1) {
            trial.state[arc] = BLOCKED;
        } else {
            trial.cost[arc]++;
        }
        trial.begin(true);
        return less(leastOfTrial(), now);
    }

    public int toll(int from, int to) {
        if (!net.hasTwoPoints(from, to)) {
            return NO_PLAN;
        }
        trial.copyFrom(net);
        int now = leastOfTrial();
        trial.copyFrom(net);
        trial.supply[from]++;
        trial.supply[to]--;
        trial.begin(true);
        return less(leastOfTrial(), now);
    }

    // ---- kept

    public boolean image(int k) {
        if (k < 0 || k >= IMAGES) {
            return false;
        }
        imageNets[k].copyFrom(net);
        imagePages[k].copyFrom(page);
        imageThere[k] = true;
        return true;
    }

    public boolean again(int k) {
        if (!hasImage(k)) {
            return false;
        }
        net.copyFrom(imageNets[k]);
        page.copyFrom(imagePages[k]);
        undoCount = 0;
        return true;
    }

    private boolean hasImage(int k) {
        return k >= 0 && k < IMAGES && imageThere[k];
    }

    private void takeFault() {
        page.length = 0;
        page.faultKind = script.fault;
        page.faultPlace = script.faultPlace;
    }

    private void saveAhead() {
        undoRows[undoTop].copyFrom(net);
    }

    private boolean countAct(boolean done) {
        if (done) {
            undoTop = undoTop == UNDO_ROWS - 1 ? 0 : undoTop + 1;
            undoCount = Math.min(undoCount + 1, MOST_UNDO);
        }
        return done;
    }

    // A loan costs more than any way by arcs, so what is best needs loans only if there is no plan.
    private int leastOfTrial() {
        route.run(trial, STEEP, PIVOT_LIMIT);
        return trial.unmet() == 0 ? trial.spent() : NO_PLAN;
    }

    private static int less(int then, int now) {
        return now == NO_PLAN || then == NO_PLAN ? NO_PLAN : then - now;
    }

    private static int byteOf(long eight, int k) {
        return (int) (eight >>> (56 - 8 * k)) & 255;
    }

    private static int toldEdge(int edge) {
        return edge < MOST_ARCS ? edge : LOAN_TOLD + edge - MOST_ARCS;
    }

    private static boolean isRule(int rule) {
        return rule >= FIRST && rule <= ROUND;
    }

    /** What an act counts: pivots and beginnings since the text was read. */
    private static final class Tally {
        int pivotsMade;
        int pivotsStill;
        int begun;
        int entered = NONE;
        // Rings of the latest pivots: pivot number n stands at n modulo PAST_KEPT.
        final int[] pastEntered = new int[PAST_KEPT];
        final int[] pastLeft = new int[PAST_KEPT];
        final int[] pastDelta = new int[PAST_KEPT];

        void clear() {
            pivotsMade = 0;
            pivotsStill = 0;
            begun = 0;
            entered = NONE;
        }

        void copyFrom(Tally other) {
            pivotsMade = other.pivotsMade;
            pivotsStill = other.pivotsStill;
            begun = other.begun;
            entered = other.entered;
            System.arraycopy(other.pastEntered, 0, pastEntered, 0, PAST_KEPT);
            System.arraycopy(other.pastLeft, 0, pastLeft, 0, PAST_KEPT);
            System.arraycopy(other.pastDelta, 0, pastDelta, 0, PAST_KEPT);
        }

        void count(int entering, int leaving, int delta) {
            int at = pivotsMade % PAST_KEPT;
            pastEntered[at] = entering;
            pastLeft[at] = leaving;
            pastDelta[at] = delta;
            pivotsMade++;
            if (delta == 0) {
                pivotsStill++;
            }
            entered = entering;
        }

        int told(int k, int what) {
            if (k < 0 || k >= PAST_KEPT || k >= pivotsMade) {
                return NONE;
            }
            int at = (pivotsMade - 1 - k) % PAST_KEPT;
            switch (what) {
                case 0:
                    return pastEntered[at];
                case 1:
                    return toldEdge(pastLeft[at]);
                case 2:
                    return pastDelta[at];
                default:
                    return NONE;
            }
        }
    }

    /** A grid with its flows, its tree, its rule and its tallies: all that an undo brings back. */
    private static final class Net {
        int points;
        int arcs;
        int ruleKept;
        final int[] supply = new int[MOST_POINTS];
        final int[] tail = new int[EDGES];
        final int[] head = new int[EDGES];
        final int[] bound = new int[EDGES];
        final int[] cost = new int[EDGES];
        final int[] flow = new int[EDGES];
        final int[] state = new int[EDGES];
        // The tree: of each point the next node on its way to the ROOT, and the edge to that.
        final int[] up = new int[MOST_POINTS];
        final int[] upEdge = new int[MOST_POINTS];
        final int[] price = new int[NODES];
        final Tally tally = new Tally();

        void copyFrom(Net other) {
            points = other.points;
            arcs = other.arcs;
            ruleKept = other.ruleKept;
            System.arraycopy(other.supply, 0, supply, 0, MOST_POINTS);
            System.arraycopy(other.tail, 0, tail, 0, EDGES);
            System.arraycopy(other.head, 0, head, 0, EDGES);
            System.arraycopy(other.bound, 0, bound, 0, EDGES);
            System.arraycopy(other.cost, 0, cost, 0, EDGES);
            System.arraycopy(other.flow, 0, flow, 0, EDGES);
            System.arraycopy(other.state, 0, state, 0, EDGES);
            System.arraycopy(other.up, 0, up, 0, MOST_POINTS);
            System.arraycopy(other.upEdge, 0, upEdge, 0, MOST_POINTS);
            System.arraycopy(other.price, 0, price, 0, NODES);
            tally.copyFrom(other.tally);
        }

        void clear(int howMany) {
            points = howMany;
            arcs = 0;
            ruleKept = FIRST;
            for (int p = 0; p < MOST_POINTS; p++) {
                supply[p] = 0;
            }
        }

        void addArc(int from, int to, int most, int each) {
            if (arcs >= MOST_ARCS) {
                return;
            }
            tail[arcs] = from;
            head[arcs] = to;
            bound[arcs] = most;
            cost[arcs] = each;
            flow[arcs] = 0;
            state[arcs] = EMPTY;
            arcs++;
        }

        boolean hasArc(int arc) {
            return arc >= 0 && arc < arcs;
        }

        boolean hasPoint(int point) {
            return point >= 0 && point < points;
        }

        boolean hasTwoPoints(int one, int other) {
            return hasPoint(one) && hasPoint(other) && one != other;
        }

        int toldNode(int node) {
            return node == ROOT ? points : node;
        }

        // ---- acts, each true if it was done

        boolean setRule(int rule) {
            if (!isRule(rule)) {
                return false;
            }
            ruleKept = rule;
            return true;
        }

        boolean moveSupply(int from, int to, int much) {
            if (!hasTwoPoints(from, to) || much < 1 || much > MOST_NUMBER) {
                return false;
            }
            if (supply[from] + much > MOST_NUMBER || supply[to] - much < -MOST_NUMBER) {
                return false;
            }
            supply[from] += much;
            supply[to] -= much;
            begin(true);
            return true;
        }

        boolean setOpen(int arc, boolean open) {
            if (!hasArc(arc) || (state[arc] != BLOCKED) == open) {
                return false;
            }
            state[arc] = open ? EMPTY : BLOCKED;
            begin(true);
            return true;
        }

        boolean setBound(int arc, int most) {
            if (!hasArc(arc) || most < 0 || most > MOST_NUMBER || most == bound[arc]) {
                return false;
            }
            bound[arc] = most;
            begin(true);
            return true;
        }

        boolean setCost(int arc, int each) {
            if (!hasArc(arc) || each < -MOST_NUMBER || each > MOST_NUMBER || each == cost[arc]) {
                return false;
            }
            cost[arc] = each;
            setPrices();
            return true;
        }

        void begin(boolean warm) {
            for (int a = 0; a < arcs; a++) {
                if (state[a] == BLOCKED) {
                    flow[a] = 0;
                } else {
                    boolean full = warm && bound[a] > 0 && 2 * flow[a] >= bound[a];
                    state[a] = full ? FULL : EMPTY;
                    flow[a] = full ? bound[a] : 0;
                }
            }
            for (int p = 0; p < points; p++) {
                hangByLoan(p);
            }
            setPrices();
            tally.begun++;
        }

        private void hangByLoan(int point) {
            int rest = supply[point];
            for (int a = 0; a < arcs; a++) {
                if (head[a] == point) {
                    rest += flow[a];
                } else if (tail[a] == point) {
                    rest -= flow[a];
                }
            }
            int loan = MOST_ARCS + point;
            tail[loan] = rest >= 0 ? point : ROOT;
            head[loan] = rest >= 0 ? ROOT : point;
            cost[loan] = LOAN_COST;
            flow[loan] = Math.abs(rest);
            state[loan] = IN_TREE;
            up[point] = ROOT;
            upEdge[point] = loan;
        }

        void setPrices() {
            price[ROOT] = 0;
            for (int p = 0; p < points; p++) {
                int sum = 0;
                int at = p;
                for (int i = 0; i < points && at != ROOT; i++) {
                    int edge = upEdge[at];
                    sum += tail[edge] == at ? -cost[edge] : cost[edge];
                    at = up[at];
                }
                price[p] = sum;
            }
        }

        // ---- offers

        int reduced(int arc) {
            return cost[arc] + price[tail[arc]] - price[head[arc]];
        }

        boolean mayOffer(int arc) {
            return (state[arc] == EMPTY || state[arc] == FULL) && bound[arc] > 0;
        }

        /** How far REDUCED is from 0 on the side that offers; 0 if the arc does not offer. */
        int offer(int arc) {
            if (!mayOffer(arc)) {
                return 0;
            }
            return Math.max(0, state[arc] == EMPTY ? -reduced(arc) : reduced(arc));
        }

        int countOffers() {
            int found = 0;
            for (int a = 0; a < arcs; a++) {
                if (offer(a) > 0) {
                    found++;
                }
            }
            return found;
        }

        /** The arc that enters by a rule, or NONE. */
        int pick(int rule) {
            int start = rule == ROUND ? tally.entered + 1 : 0;
            int best = NONE;
            int most = 0;
            for (int i = 0; i < arcs; i++) {
                int arc = (start + i) % arcs;
                int much = offer(arc);
                if (much > 0 && rule != STEEP) {
                    return arc;
                }
                if (much > most) {
                    best = arc;
                    most = much;
                }
            }
            return best;
        }

        // ---- the tree

        int room(int edge, boolean along) {
            if (!along) {
                return flow[edge];
            }
            return edge < MOST_ARCS ? bound[edge] - flow[edge] : NO_BOUND;
        }

        boolean hasOnWay(int node, int sought) {
            int at = node;
            for (int i = 0; i < points && at != ROOT; i++) {
                if (at == sought) {
                    return true;
                }
                at = up[at];
            }
            return at == sought;
        }

        int depth(int node) {
            int edges = 0;
            int at = node;
            while (edges < points && at != ROOT) {
                at = up[at];
                edges++;
            }
            return edges;
        }

        int countBelow(int point) {
            int found = 0;
            for (int p = 0; p < points; p++) {
                if (hasOnWay(p, point)) {
                    found++;
                }
            }
            return found;
        }

        int loanFlow(int point) {
            int loan = MOST_ARCS + point;
            return tail[loan] == point ? flow[loan] : -flow[loan];
        }

        int childBehind(int node, int behind) {
            for (int p = behind + 1; p < points; p++) {
                if (up[p] == node) {
                    return p;
                }
            }
            return NONE;
        }

        int threadBehind(int point) {
            int found = childBehind(point, NONE);
            int at = point;
            for (int i = 0; i < points && found == NONE && at != NONE && at != ROOT; i++) {
                found = childBehind(up[at], at);
                at = up[at];
            }
            return found;
        }

        /** The way from below to the edge that goes out is turned round, and hangs by the edge that comes in. */
        void rehang(int below, int above, int comes, int goes) {
            int at = below;
            int newUp = above;
            int newEdge = comes;
            for (int i = 0; i < points && at != ROOT; i++) {
                int oldUp = up[at];
                int oldEdge = upEdge[at];
                up[at] = newUp;
                upEdge[at] = newEdge;
                if (oldEdge == goes) {
                    break;
                }
                newUp = at;
                newEdge = oldEdge;
                at = oldUp;
            }
        }

        // ---- sums over flows

        int unmet() {
            int all = 0;
            for (int p = 0; p < points; p++) {
                all += flow[MOST_ARCS + p];
            }
            return all;
        }

        int spent() {
            int all = 0;
            for (int a = 0; a < arcs; a++) {
                all += flow[a] * cost[a];
            }
            return all;
        }

        int flowingCostAbove(int floor) {
            int found = MOST_NUMBER + 1;
            for (int a = 0; a < arcs; a++) {
                if (flow[a] > 0 && cost[a] > floor && cost[a] < found) {
                    found = cost[a];
                }
            }
            return found;
        }

        int flowAtCost(int each) {
            int all = 0;
            for (int a = 0; a < arcs; a++) {
                if (cost[a] == each) {
                    all += flow[a];
                }
            }
            return all;
        }

        int countApart(Net other) {
            int found = 0;
            for (int a = 0; a < MOST_ARCS; a++) {
                int here = a < arcs ? flow[a] : 0;
                int there = a < other.arcs ? other.flow[a] : 0;
                if (here != there) {
                    found++;
                }
            }
            return found;
        }

        void spread(int[] reach) {
            for (int a = 0; a < arcs; a++) {
                if (state[a] != BLOCKED) {
                    int from = tail[a];
                    int to = head[a];
                    reach[to] = Math.max(reach[to], Math.min(reach[from], bound[a] - flow[a]));
                    reach[from] = Math.max(reach[from], Math.min(reach[to], flow[a]));
                }
            }
        }

        // ---- sets of points

        int shortOf(int set) {
            int all = 0;
            for (int p = 0; p < points; p++) {
                if ((set >> p & 1) == 1) {
                    all += supply[p];
                }
            }
            for (int a = 0; a < arcs; a++) {
                if (state[a] != BLOCKED && (set >> tail[a] & 1) == 1 && (set >> head[a] & 1) == 0) {
                    all -= bound[a];
                }
            }
            return all;
        }

        int worstSet() {
            int worst = 0;
            int most = 0;
            for (int set = 1; set < 1 << points; set++) {
                int missing = shortOf(set);
                boolean fewer = Integer.bitCount(set) < Integer.bitCount(worst);
                if (missing > most || missing == most && fewer) {
                    worst = set;
                    most = missing;
                }
            }
            return worst;
        }

        // ---- how far a cost may go: for a cost that is d more, REDUCED of another arc is slope times d more

        int lowestCost(int arc) {
            int low = -MOST_NUMBER;
            for (int a = 0; a < arcs; a++) {
                int slope = mayOffer(a) ? slope(arc, a) : 0;
                if (slope != 0 && (state[a] == EMPTY) == (slope > 0)) {
                    low = Math.max(low, cost[arc] - reduced(a) * slope);
                }
            }
            return low;
        }

        int highestCost(int arc) {
            int high = MOST_NUMBER;
            for (int a = 0; a < arcs; a++) {
                int slope = mayOffer(a) ? slope(arc, a) : 0;
                if (slope != 0 && (state[a] == EMPTY) != (slope > 0)) {
                    high = Math.min(high, cost[arc] - reduced(a) * slope);
                }
            }
            return high;
        }

        private int slope(int arc, int other) {
            if (state[arc] != IN_TREE) {
                return arc == other ? 1 : 0;
            }
            boolean goesDown = upEdge[head[arc]] == arc;
            int below = goesDown ? head[arc] : tail[arc];
            int from = hasOnWay(tail[other], below) ? 1 : 0;
            int to = hasOnWay(head[other], below) ? 1 : 0;
            return goesDown ? from - to : to - from;
        }
    }

    /** Edges gone along one behind another: a way in the tree, or the cycle of a pivot. */
    private static final class Route {
        final int[] edge = new int[NODES];
        final boolean[] along = new boolean[NODES];
        int count;
        int join;
        int delta;
        int enterAt;
        int leaveAt;

        void way(Net net, int from, int to) {
            count = 0;
            join = meeting(net, from, to);
            climb(net, from);
            descend(net, to);
        }

        void cycle(Net net, int entering) {
            boolean empty = net.state[entering] == EMPTY;
            int from = empty ? net.tail[entering] : net.head[entering];
            int to = empty ? net.head[entering] : net.tail[entering];
            count = 0;
            join = meeting(net, from, to);
            descend(net, from);
            enterAt = count;
            add(entering, empty);
            climb(net, to);
            delta = leastRoom(net);
            leaveAt = enterAt;
            for (int i = 0; i < count; i++) {
                if (net.room(edge[i], along[i]) == delta) {
                    leaveAt = i;
                }
            }
        }

        /** One pivot: the arc that entered, or NONE if none offers. */
        int step(Net net, int rule) {
            int entering = net.pick(rule);
            if (entering == NONE) {
                return NONE;
            }
            cycle(net, entering);
            for (int i = 0; i < count; i++) {
                net.flow[edge[i]] += along[i] ? delta : -delta;
            }
            exchange(net, entering, edge[leaveAt]);
            net.tally.count(entering, edge[leaveAt], delta);
            return entering;
        }

        /** Pivots till it is best, so many at most: how many. */
        int run(Net net, int rule, int most) {
            int made = 0;
            while (made < most && step(net, rule) != NONE) {
                made++;
            }
            return made;
        }

        int leaving() {
            return edge[leaveAt];
        }

        int leastRoom(Net net) {
            int room = NO_BOUND;
            for (int i = 0; i < count; i++) {
                room = Math.min(room, net.room(edge[i], along[i]));
            }
            return room;
        }

        int cost(Net net) {
            int all = 0;
            for (int i = 0; i < count; i++) {
                all += along[i] ? net.cost[edge[i]] : -net.cost[edge[i]];
            }
            return all;
        }

        int told(int what, int otherwise) {
            if (what < LISTED || what - LISTED >= count) {
                return otherwise;
            }
            return toldEdge(edge[what - LISTED]);
        }

        private void exchange(Net net, int entering, int leaving) {
            if (leaving == entering) {
                net.state[entering] = along[enterAt] ? FULL : EMPTY;
                return;
            }
            int from = along[enterAt] ? net.tail[entering] : net.head[entering];
            int to = along[enterAt] ? net.head[entering] : net.tail[entering];
            net.state[entering] = IN_TREE;
            net.state[leaving] = net.flow[leaving] == 0 ? EMPTY : FULL;
            if (leaveAt < enterAt) {
                net.rehang(from, to, entering, leaving);
            } else {
                net.rehang(to, from, entering, leaving);
            }
            net.setPrices();
        }

        private static int meeting(Net net, int one, int other) {
            int at = one;
            for (int i = 0; i < NODES && at != ROOT; i++) {
                if (net.hasOnWay(other, at)) {
                    return at;
                }
                at = net.up[at];
            }
            return ROOT;
        }

        private void climb(Net net, int from) {
            int at = from;
            for (int i = 0; i < NODES && at != join && at != ROOT; i++) {
                int next = net.upEdge[at];
                add(next, net.tail[next] == at);
                at = net.up[at];
            }
        }

        private void descend(Net net, int to) {
            int edges = net.depth(to) - net.depth(join);
            if (edges < 0 || count + edges > NODES) {
                return;
            }
            int at = to;
            for (int i = count + edges - 1; i >= count && at != ROOT; i--) {
                edge[i] = net.upEdge[at];
                along[i] = net.tail[edge[i]] != at;
                at = net.up[at];
            }
            count += edges;
        }

        private void add(int next, boolean goesAlong) {
            if (count < NODES) {
                edge[count] = next;
                along[count] = goesAlong;
                count++;
            }
        }
    }

    /** The trips into which flows fall; each takes all that was left by one arc, so there are no more than arcs. */
    private static final class Trips {
        int count;
        final int[] much = new int[MOST_ARCS];
        final int[] length = new int[MOST_ARCS];
        final int[] arcs = new int[MOST_ARCS * MOST_POINTS];
        private final int[] left = new int[MOST_ARCS];
        // The trip that is being gone: its arcs, and of each point how many arcs lie ahead of it (NONE: not on it).
        private final int[] walk = new int[MOST_POINTS];
        private final int[] ahead = new int[MOST_POINTS];
        private int walked;
        private int loopAt;

        void split(Net net) {
            count = 0;
            for (int a = 0; a < net.arcs; a++) {
                left[a] = net.flow[a];
            }
            int from = start(net);
            for (int i = 0; i < MOST_ARCS && from != NONE; i++) {
                go(net, from);
                keep();
                from = start(net);
            }
        }

        int told(int k, int what) {
            if (k < 0 || k >= count) {
                return NONE;
            }
            if (what == 0) {
                return much[k];
            }
            if (what == 1) {
                return length[k];
            }
            if (what < LISTED || what - LISTED >= length[k]) {
                return NONE;
            }
            return arcs[k * MOST_POINTS + what - LISTED];
        }

        private int start(Net net) {
            for (int p = 0; p < net.points; p++) {
                if (surplus(net, p) > 0) {
                    return p;
                }
            }
            for (int p = 0; p < net.points; p++) {
                if (arcOut(net, p) != NONE) {
                    return p;
                }
            }
            return NONE;
        }

        private int surplus(Net net, int point) {
            int all = 0;
            for (int a = 0; a < net.arcs; a++) {
                if (net.tail[a] == point) {
                    all += left[a];
                } else if (net.head[a] == point) {
                    all -= left[a];
                }
            }
            return all;
        }

        private int arcOut(Net net, int point) {
            for (int a = 0; a < net.arcs; a++) {
                if (net.tail[a] == point && left[a] > 0) {
                    return a;
                }
            }
            return NONE;
        }

        private void go(Net net, int from) {
            for (int p = 0; p < MOST_POINTS; p++) {
                ahead[p] = NONE;
            }
            walked = 0;
            loopAt = 0;
            int at = from;
            while (walked < MOST_POINTS) {
                ahead[at] = walked;
                int arc = arcOut(net, at);
                if (arc == NONE) {
                    return;
                }
                walk[walked] = arc;
                walked++;
                at = net.head[arc];
                if (ahead[at] != NONE) {
                    loopAt = ahead[at];
                    return;
                }
            }
        }

        private void keep() {
            int least = NO_BOUND;
            for (int i = loopAt; i < walked; i++) {
                least = Math.min(least, left[walk[i]]);
            }
            for (int i = loopAt; i < walked; i++) {
                left[walk[i]] -= least;
                arcs[count * MOST_POINTS + i - loopAt] = walk[i];
            }
            much[count] = least;
            length[count] = walked - loopAt;
            count++;
        }
    }

    /** THE TEXT, and the fault of the one that was read last. */
    private static final class Page {
        final char[] signs = new char[MOST_BYTES];
        int length;
        int faultKind;
        int faultPlace = NONE;

        void put(int sign) {
            if (length < MOST_BYTES) {
                signs[length] = (char) sign;
                length++;
            }
        }

        void copyFrom(Page other) {
            System.arraycopy(other.signs, 0, signs, 0, MOST_BYTES);
            length = other.length;
            faultKind = other.faultKind;
            faultPlace = other.faultPlace;
        }
    }

    /** The words of texts, with how many numbers follow in a grid's text and in orders (NONE: no such line). */
    private enum Verb {
        POINTS("points", 1, NONE),
        ARC("arc", 4, NONE),
        GAIN("gain", 4, 2),
        SUPPLY("supply", 2, NONE),
        WANT("want", 2, NONE),
        BLOCK("block", 1, 1),
        TAKE_FIRST("first", 0, 0),
        TAKE_STEEP("steep", 0, 0),
        TAKE_ROUND("round", 0, 0),
        PIVOT("pivot", NONE, 1),
        SHIFT("shift", NONE, 3),
        OPEN("open", NONE, 1),
        WIDEN("widen", NONE, 2),
        CHARGE("charge", NONE, 2),
        COLD("cold", NONE, 0);

        private static final Verb[] ALL = values();

        final String word;
        final int inGrid;
        final int inOrders;

        Verb(String word, int inGrid, int inOrders) {
            this.word = word;
            this.inGrid = inGrid;
            this.inOrders = inOrders;
        }

        int numbers(boolean orders) {
            return orders ? inOrders : inGrid;
        }
    }

    /** A text as it was read: its lines, each a word and its numbers, with their places. */
    private static final class Script {
        private static final int END = 0;
        private static final int WORD = 1;
        private static final int NUMBER = 2;
        private static final int STOP = 3;
        private static final int NO_TOKEN = 4;

        int count;
        int fault;
        int faultPlace = NONE;
        private final Verb[] verbs = new Verb[MOST_LINES];
        private final int[] places = new int[MOST_LINES];
        private final int[] numbers = new int[MOST_LINES * NUMBERS_A_LINE];
        private final int[] numberPlaces = new int[MOST_LINES * NUMBERS_A_LINE];
        private final int[] supplies = new int[MOST_POINTS];
        private int token;
        private int tokenPlace;
        private int tokenEnd;

        // ---- reading

        void read(Page page, boolean orders) {
            count = 0;
            fault = 0;
            faultPlace = NONE;
            tokenEnd = 0;
            findToken(page);
            boolean good = true;
            for (int i = 0; i < MOST_LINES && good && token != END; i++) {
                good = readLine(page, orders);
            }
            if (!good || token != END) {
                blame(1, tokenPlace);
            }
        }

        /** False: the token at hand can not stand there. */
        private boolean readLine(Page page, boolean orders) {
            Verb verb = token == WORD ? verbHere(page, orders) : null;
            if (verb == null || count >= MOST_LINES) {
                return false;
            }
            verbs[count] = verb;
            places[count] = tokenPlace;
            findToken(page);
            for (int i = 0; i < verb.numbers(orders); i++) {
                if (token != NUMBER) {
                    return false;
                }
                int at = count * NUMBERS_A_LINE + i;
                numbers[at] = numberHere(page);
                numberPlaces[at] = tokenPlace;
                findToken(page);
            }
            if (token != STOP) {
                return false;
            }
            findToken(page);
            count++;
            return true;
        }

        // The first fault that is found counts.
        private void blame(int kind, int place) {
            if (fault == 0) {
                fault = kind;
                faultPlace = place;
            }
        }

        private void findToken(Page page) {
            int at = tokenEnd;
            while (at < page.length && (page.signs[at] == 32 || page.signs[at] == 10)) {
                at++;
            }
            tokenPlace = at;
            token = at < page.length ? kindOf(page.signs[at]) : END;
            if (token == WORD || token == NUMBER) {
                int kind = token;
                while (at < page.length && kindOf(page.signs[at]) == kind) {
                    at++;
                }
            } else if (token == STOP) {
                at++;
            }
            tokenEnd = at;
            if (token == NUMBER && tokenEnd - tokenPlace > 2) {
                token = NO_TOKEN;
            }
        }

        private static int kindOf(char sign) {
            if (sign >= 'a' && sign <= 'z') {
                return WORD;
            }
            if (sign >= '0' && sign <= '9') {
                return NUMBER;
            }
            return sign == ';' ? STOP : NO_TOKEN;
        }

        private Verb verbHere(Page page, boolean orders) {
            for (int i = 0; i < Verb.ALL.length; i++) {
                Verb verb = Verb.ALL[i];
                if (verb.numbers(orders) != NONE && isHere(page, verb.word)) {
                    return verb;
                }
            }
            return null;
        }

        private boolean isHere(Page page, String word) {
            if (word.length() != tokenEnd - tokenPlace) {
                return false;
            }
            for (int i = 0; i < word.length(); i++) {
                if (word.charAt(i) != page.signs[tokenPlace + i]) {
                    return false;
                }
            }
            return true;
        }

        private int numberHere(Page page) {
            int value = 0;
            for (int i = tokenPlace; i < tokenEnd; i++) {
                value = value * 10 + page.signs[i] - '0';
            }
            return value;
        }

        // ---- looking over what was read

        private int number(int line, int i) {
            return numbers[line * NUMBERS_A_LINE + i];
        }

        private void want(int line, int i, int low, int high, int kind) {
            int value = number(line, i);
            if (value < low || value > high) {
                blame(kind, numberPlaces[line * NUMBERS_A_LINE + i]);
            }
        }

        void checkGrid(int end) {
            int told = 0;
            for (int line = 0; line < count; line++) {
                checkGridLine(line, told);
                told += isArc(line) ? 1 : 0;
            }
            if (fault == 0) {
                checkPointsThere();
            }
            if (fault == 0 && sumOfSupplies() != 0) {
                blame(4, end);
            }
        }

        private void checkGridLine(int line, int told) {
            switch (verbs[line]) {
                case POINTS:
                    want(line, 0, 2, MOST_POINTS, 2);
                    break;
                case ARC:
                case GAIN:
                    if (told == MOST_ARCS) {
                        blame(2, places[line]);
                    }
                    want(line, 0, 0, MOST_POINTS - 1, 2);
                    want(line, 1, 0, MOST_POINTS - 1, 2);
                    if (number(line, 0) == number(line, 1)) {
                        blame(2, numberPlaces[line * NUMBERS_A_LINE + 1]);
                    }
                    break;
                case SUPPLY:
                case WANT:
                    want(line, 0, 0, MOST_POINTS - 1, 2);
                    break;
                case BLOCK:
                    want(line, 0, 0, told - 1, 2);
                    break;
                default:
                    break;
            }
        }

        private void checkPointsThere() {
            int last = pointsTold() - 1;
            for (int line = 0; line < count; line++) {
                if (isArc(line)) {
                    want(line, 0, 0, last, 3);
                    want(line, 1, 0, last, 3);
                } else if (verbs[line] == Verb.SUPPLY || verbs[line] == Verb.WANT) {
                    want(line, 0, 0, last, 3);
                }
            }
        }

        private boolean isArc(int line) {
            return verbs[line] == Verb.ARC || verbs[line] == Verb.GAIN;
        }

        private int pointsTold() {
            int points = 2;
            for (int line = 0; line < count; line++) {
                if (verbs[line] == Verb.POINTS) {
                    points = number(line, 0);
                }
            }
            return points;
        }

        private int sumOfSupplies() {
            for (int p = 0; p < MOST_POINTS; p++) {
                supplies[p] = 0;
            }
            for (int line = 0; line < count; line++) {
                if (verbs[line] == Verb.SUPPLY) {
                    supplies[number(line, 0)] = number(line, 1);
                } else if (verbs[line] == Verb.WANT) {
                    supplies[number(line, 0)] = -number(line, 1);
                }
            }
            int all = 0;
            for (int p = 0; p < MOST_POINTS; p++) {
                all += supplies[p];
            }
            return all;
        }

        void checkOrders() {
            for (int line = 0; line < count; line++) {
                switch (verbs[line]) {
                    case PIVOT:
                        want(line, 0, 1, MOST_PIVOTS, 2);
                        break;
                    case SHIFT:
                        want(line, 0, 0, MOST_POINTS - 1, 2);
                        want(line, 1, 0, MOST_POINTS - 1, 2);
                        want(line, 2, 1, MOST_NUMBER, 2);
                        break;
                    case BLOCK:
                    case OPEN:
                    case WIDEN:
                    case CHARGE:
                    case GAIN:
                        want(line, 0, 0, MOST_ARCS - 1, 2);
                        break;
                    default:
                        break;
                }
            }
        }

        // ---- doing what was read, once there is no fault

        void fill(Net net) {
            net.clear(pointsTold());
            for (int p = 0; p < net.points; p++) {
                net.supply[p] = supplies[p];
            }
            for (int line = 0; line < count; line++) {
                fillLine(line, net);
            }
        }

        private void fillLine(int line, Net net) {
            switch (verbs[line]) {
                case ARC:
                    net.addArc(number(line, 0), number(line, 1), number(line, 2), number(line, 3));
                    break;
                case GAIN:
                    net.addArc(number(line, 0), number(line, 1), number(line, 2), -number(line, 3));
                    break;
                case BLOCK:
                    net.state[number(line, 0)] = BLOCKED;
                    break;
                case TAKE_FIRST:
                    net.ruleKept = FIRST;
                    break;
                case TAKE_STEEP:
                    net.ruleKept = STEEP;
                    break;
                case TAKE_ROUND:
                    net.ruleKept = ROUND;
                    break;
                default:
                    break;
            }
        }

        /** One order: true if it was done, false if it was refused. */
        boolean obey(int line, Net net, Route route) {
            switch (verbs[line]) {
                case PIVOT:
                    return route.run(net, net.ruleKept, number(line, 0)) > 0;
                case SHIFT:
                    return net.moveSupply(number(line, 0), number(line, 1), number(line, 2));
                case BLOCK:
                    return net.setOpen(number(line, 0), false);
                case OPEN:
                    return net.setOpen(number(line, 0), true);
                case WIDEN:
                    return net.setBound(number(line, 0), number(line, 1));
                case CHARGE:
                    return net.setCost(number(line, 0), number(line, 1));
                case GAIN:
                    return net.setCost(number(line, 0), -number(line, 1));
                case COLD:
                    net.begin(false);
                    return true;
                case TAKE_FIRST:
                    return net.setRule(FIRST);
                case TAKE_STEEP:
                    return net.setRule(STEEP);
                case TAKE_ROUND:
                    return net.setRule(ROUND);
                default:
                    return false;
            }
        }
    }
}
