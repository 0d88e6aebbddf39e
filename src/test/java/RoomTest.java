import java.lang.management.ManagementFactory;

/** After it has been made, an object makes no more than a tree's two rows, whatever is called. */
public final class RoomTest {
    static final com.sun.management.ThreadMXBean BEAN =
        (com.sun.management.ThreadMXBean) ManagementFactory.getThreadMXBean();

    static long allocated() {
        return BEAN.getThreadAllocatedBytes(Thread.currentThread().getId());
    }

    static NinetyLamps fullBoard() {
        NinetyLamps x = new NinetyLamps();
        PromisesTest.tell(x, "w7");
        for (int k = 0; k < 60; k++) {
            int a = k % 7;
            int b = (a + 1 + k / 7 % 6) % 7;
            PromisesTest.tell(x, a + ">" + b + "*" + (1 + k % 3));
        }
        x.set(0, 20);
        x.set(1, 3);
        x.picture(0, 0xFFF);
        for (int t = 0; t < 8; t++) {
            x.test(1 << t % 7, 1 << (t + 1 + t / 7) % 7);
        }
        return x;
    }

    static void dearestCalls(NinetyLamps x) {
        x.put(1, 64);
        x.light(3);
        x.why(3);
        x.brightest();
        x.sets();
        x.twins();
        x.bars(5);
        x.range(1, 64);
        x.parted(0);
        x.proof(0);
        x.changes(0);
        x.even(0, 200);
        x.better(0);
        x.hidden();
        x.tells(9);
        x.which();
        x.next();
        x.tree();
        x.path(0);
        x.keep(0);
        x.again(0);
        x.sign(0);
        x.board();
    }

    public static void main(String[] args) {
        dearestCalls(fullBoard());
        long before = allocated();
        NinetyLamps x = new NinetyLamps();
        long made = allocated() - before;
        x = fullBoard();
        dearestCalls(x);
        before = allocated();
        for (int n = 0; n < 20; n++) {
            dearestCalls(x);
        }
        long later = allocated() - before;
        System.out.println("made " + made + " bytes, later calls " + later);
        if (made > 200_000 || later > 20_000) {
            System.out.println("too much is made");
            System.exit(1);
        }
        System.exit(0);
    }
}
