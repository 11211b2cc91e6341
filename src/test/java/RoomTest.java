import java.lang.management.ManagementFactory;
import java.util.Random;

/**
 * The room: no call makes an object, and a new SnoozeRow makes few.
 * And no call throws, for any numbers in any state, beyond the 512th call too.
 */
public final class RoomTest {
    private static final Due DUE = new Due();
    private static final int[] EDGES = {Integer.MIN_VALUE, Integer.MIN_VALUE + 1, -10001, -11, -2, -1, 0, 1, 2,
        3, 4, 5, 6, 7, 9, 10, 12, 15, 20, 21, 59, 60, 61, 99, 100, 127, 128, 9999, 10000,
        Integer.MAX_VALUE - 10, Integer.MAX_VALUE};
    private static final com.sun.management.ThreadMXBean THREADS =
        (com.sun.management.ThreadMXBean) ManagementFactory.getThreadMXBean();

    public static void main(String[] args) {
        Random random = new Random(7);
        int[] numbers = new int[7 * 20000];
        for (int i = 0; i < numbers.length; i++) {
            numbers[i] = i % 7 == 0 ? random.nextInt(32) : pick(random);
        }
        DUE.promise("the room");
        // the first time also loads what the machine needs
        anyCalls(dearest(), numbers);
        dearCalls(dearest());
        bytes();
        SnoozeRow any = dearest();
        long from = bytes();
        anyCalls(any, numbers);
        long calls = bytes() - from;
        SnoozeRow dear = dearest();
        from = bytes();
        dearCalls(dear);
        long dearCalls = bytes() - from;
        from = bytes();
        SnoozeRow made = new SnoozeRow();
        long object = bytes() - from;
        DUE.is("count(0)", made.count(0), 0);
        DUE.is("20000 calls make nothing (" + calls + " bytes)", calls < 1000 ? 1 : 0, 1);
        DUE.is("the dearest calls make nothing (" + dearCalls + " bytes)", dearCalls < 1000 ? 1 : 0, 1);
        DUE.is("an object is small (" + object + " bytes)", object < 20000 ? 1 : 0, 1);
        DUE.end();
    }

    private static long bytes() {
        return THREADS.getThreadAllocatedBytes(Thread.currentThread().getId());
    }

    private static int pick(Random random) {
        return random.nextInt(3) == 0 ? EDGES[random.nextInt(EDGES.length)] : random.nextInt(8);
    }

    /** All that makes asking dear: six SLEEPERS, five SEEN to the end, a long STREET. */
    private static SnoozeRow dearest() {
        SnoozeRow x = Due.row(6, 1, 4, 2, 6, 3, 5, 4, 3, 5, 6, 6);
        Due.street(x, "late 1 p=1|p=2|p=3|p=4|p=5|p=6|p=7|p=8|p=9|k=1|k=2|k=3|k=4|k=5|k=6|k=7|k=8|k=9|v=9|v=8|v=7");
        for (int p = 1; p < 6; p++) {
            x.see(p, 12, 0);
        }
        for (int i = 0; i < 10; i++) {
            x.plan(0, 0);
        }
        return x;
    }

    private static void dearCalls(SnoozeRow x) {
        for (int p = 0; p < 6; p++) {
            x.of(p, 7);
            x.of(p, 8);
            x.can(p, 0);
        }
        x.best(20, 0);
        x.best(12, 1);
        x.odds(20, 9999, 0);
        x.mean(60, 0);
        x.fills(9999);
        x.ends(0);
        x.image();
        x.undo();
        x.pass(60);
    }

    private static void anyCalls(SnoozeRow x, int[] numbers) {
        for (int i = 0; i < numbers.length; i += 7) {
            int a = numbers[i + 1];
            int b = numbers[i + 2];
            int c = numbers[i + 3];
            switch (numbers[i]) {
                case 0: x.sleeper(a, b); break;
                case 1: x.of(a, b); break;
                case 2: x.owe(a, b); break;
                case 3: x.away(a, b > 3); break;
                case 4: x.dip(a); break;
                case 5: x.row(a, b, c); break;
                case 6: x.feed("late 1 p=1;bear 2"
                    .charAt(Math.min(x.count(5), 16))); break;
                case 7: x.street(); break;
                case 8: x.told(a); break;
                case 9: x.pass(a); break;
                case 10: x.on(a, b); break;
                case 11: x.fills(a); break;
                case 12: x.best(a, b); break;
                case 13: x.see(a, b, c); break;
                case 14: x.can(a, b); break;
                case 15: x.odds(a, b, c); break;
                case 16: x.mean(a, b); break;
                case 17: x.plan(a, b); break;
                case 18: x.ends(a); break;
                case 19: x.book(a, b); break;
                case 20: x.looked(); break;
                case 21: x.judge(a, b); break;
                case 22: x.image(); break;
                case 23: x.undo(); break;
                case 24: x.act(a, b, c); break;
                case 25: x.trace(a); break;
                case 26: x.taken(a, b); break;
                case 27: x.count(a); break;
                case 28: x.tape(a, b, c); break;
                case 29: x.item(a, b, c); break;
                case 30: x.read(a, b); break;
                default: x.shift(a, b, c, numbers[i + 4], numbers[i + 5]);
            }
        }
    }
}
