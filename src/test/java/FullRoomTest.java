import java.lang.management.ManagementFactory;

/** The dearest calls on an object with all it can hold: 512 of them stay within the room that all calls have. */
public final class FullRoomTest {
    // 7.3 million fields and elements in all; a long has eight bytes.
    private static final long ROOM = 7300000L * 4;

    public static void main(String[] args) {
        Check check = new Check("FullRoomTest");
        warmUp();
        long before = allocated();
        IceSearch x = full();
        int calls = askAll(x);
        long used = allocated() - before;
        check.that("the calls were many: " + calls, calls > 300);
        check.that("all of it fits in the room, " + used + " bytes", used < ROOM / 8);
        check.due("all finds", x.count(1), 40);
        check.due("all ICE", x.count(3), 200);
        check.end();
    }

    // The machine's own first use of what the calls need isn't theirs.
    private static void warmUp() {
        allocated();
        askAll(full());
        allocated();
    }

    private static long allocated() {
        com.sun.management.ThreadMXBean bean = (com.sun.management.ThreadMXBean) ManagementFactory.getThreadMXBean();
        return bean.getCurrentThreadAllocatedBytes();
    }

    private static IceSearch full() {
        IceSearch x = new IceSearch();
        x.lost(136, 200, 20000, 60);
        x.set(119, 20);
        for (int i = 0; i < 200; i++) {
            x.ice(i * 7 % 256, i % 12, i % 3 > 0);
        }
        for (int i = 0; i < 10; i++) {
            x.teller(95, i - 1);
        }
        for (int i = 0; i < 40; i++) {
            int kind = i % 5;
            x.find(kind, i * 5, i, 119 - i, kind == 4 ? 100 : kind, i % 11 - 1, i % 10);
        }
        for (int i = 0; i < 4; i++) {
            x.ship(100 + i * 20, 20, 25 * i + 1);
        }
        for (int i = 0; i < 119; i++) {
            x.move(i % 9);
        }
        for (int i = 0; i < 60; i++) {
            x.feed(0x6e6f7420, 0x6e6f7420, 0x6e6f7420, 0x6d656e3c, 0x33207c20);
        }
        return x;
    }

    private static int askAll(IceSearch x) {
        int calls = 0;
        for (int i = 0; i < 20; i++) {
            x.fits(0);
            x.most(0, 1);
            x.at(0, 30 + i, 60);
            x.sure(0, 30 + i);
            x.ends(0);
            x.judge(0);
            x.chance(0, i, 119);
            x.left(0, 119);
            x.lead(0, i, 119, i);
            x.best(0);
            x.trip(0, i);
            x.beside(x.count(13));
            Texts.feed(x, "stay if (men=1 or(men=2 or(men=3)));pay 1 for told;");
            x.beside(40);
            x.would(0, 0);
            x.tried(0, 0);
            calls += 19;
        }
        return calls;
    }
}
