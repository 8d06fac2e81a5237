import java.lang.management.ManagementFactory;
import java.util.NoSuchElementException;
import java.util.Random;

/** All calls of a run share one room: a new object is small, its 512 calls make nothing but exceptions. */
public final class RoomTest {
    private static final int CALLS = 512;
    private static final long MOST_BYTES_NEW = 64 * 1024;
    private static final long MOST_BYTES_CALLS = 64 * 1024;

    private static final String GRID = "points 7;arc 0 1 9 5;arc 1 2 9 4;arc 2 3 9 7;arc 3 4 9 2;arc 4 5 9 8;arc 5 6 9 1;"
        + "gain 6 0 9 3;arc 0 3 9 9;arc 3 6 9 9;arc 1 5 9 6;gain 5 2 9 6;arc 2 6 9 9;arc 0 6 9 99;arc 6 4 9 1;"
        + "supply 0 20;want 6 15;want 4 5;";

    public static void main(String[] args) {
        com.sun.management.ThreadMXBean bean = (com.sun.management.ThreadMXBean) ManagementFactory.getThreadMXBean();
        int wrong = 0;
        for (int run = 0; run < 20; run++) {
            long start = bean.getCurrentThreadAllocatedBytes();
            TreeFlows x = new TreeFlows();
            long made = bean.getCurrentThreadAllocatedBytes() - start;
            Random random = new Random(run);
            long calls = 0;
            for (int i = 0; i < CALLS; i++) {
                String text = i % 40 == 0 ? GRID : "pivot 3;shift 0 6 1;charge 1 9;cold;pivot 2;";
                if (i % 10 == 0) {
                    Texts.spell(x, text);
                }
                int a = random.nextInt(16) - 1;
                int b = random.nextInt(16) - 1;
                start = bean.getCurrentThreadAllocatedBytes();
                call(x, i % 40 == 0 ? 0 : i % 10 == 0 ? 1 : 2 + random.nextInt(31), a, b);
                calls += bean.getCurrentThreadAllocatedBytes() - start;
            }
            // The first run also loads the class's own constants.
            if (run > 0 && (made > MOST_BYTES_NEW || calls > MOST_BYTES_CALLS)) {
                wrong++;
                System.out.println("run " + run + ": a new object " + made + " bytes, its calls " + calls);
            }
        }
        System.out.println(wrong == 0 ? "the room holds" : wrong + " runs need too much room");
        if (wrong != 0) {
            System.exit(1);
        }
    }

    private static void call(TreeFlows x, int which, int a, int b) {
        try {
            if (which < 18) {
                actOrLook(x, which, a, b);
            } else {
                ask(x, which, a, b);
            }
        } catch (NoSuchElementException none) {
            return;
        }
    }

    private static void actOrLook(TreeFlows x, int which, int a, int b) {
        switch (which) {
            case 0: x.lay(); break;
            case 1: x.work(); break;
            case 2: x.fault(true); break;
            case 3: x.pivot(); break;
            case 4: x.pivots(60); break;
            case 5: x.rule(a % 4); break;
            case 6: x.shift(a, b, 3); break;
            case 7: x.block(a, b > 3); break;
            case 8: x.widen(a, b); break;
            case 9: x.charge(a, b); break;
            case 10: x.cold(); break;
            case 11: x.undo(); break;
            case 12: x.grid(a); break;
            case 13: x.arc(a, b); break;
            case 14: x.point(a, b); break;
            case 15: x.thread(a); break;
            case 16: x.path(a, b, 10); break;
            default: x.next(b); break;
        }
    }

    private static void ask(TreeFlows x, int which, int a, int b) {
        switch (which) {
            case 18: x.past(a, b % 3); break;
            case 19: x.bill(a); break;
            case 20: x.ledger(a, true); break;
            case 21: x.wide(a, b); break;
            case 22: x.trip(a, 1); break;
            case 23: x.apart(a); break;
            case 24: x.span(a, true); break;
            case 25: x.least(); break;
            case 26: x.lack(); break;
            case 27: x.cut(); break;
            case 28: x.steps(a % 3); break;
            case 29: x.worth(a, b % 3); break;
            case 30: x.toll(a, b); break;
            case 31: x.image(a % 3); break;
            default: x.again(a % 3); break;
        }
    }
}
