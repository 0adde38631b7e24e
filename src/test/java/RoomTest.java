import com.sun.management.ThreadMXBean;
import java.lang.management.ManagementFactory;
import java.util.Random;

/** No call throws, whatever its arguments, and 512 calls keep to little of the room. */
public final class RoomTest {
    private static final int[] INTS = {0, 1, 2, 3, 4, 5, 6, 7, 29, 30, 31, 59, 60, 61, -1, -2, ',', '.', ' ', '\'', '/', '-',
        255, 256, Integer.MAX_VALUE, Integer.MIN_VALUE, 999999999, 1000000000};
    private static final long[] LONGS = {0, 1, -1, 999999999999999L, -999999999999999L, 1000000000000000L,
        3652058, 3652059, Long.MAX_VALUE, Long.MIN_VALUE, 1L << 32, 499999, 500000};
    private static final Random RANDOM = new Random(512);

    public static void main(String[] args) {
        ThreadMXBean bean = (ThreadMXBean) ManagementFactory.getThreadMXBean();
        long most = 0;
        for (int run = 0; run < 4000; run++) {
            int[] calls = new int[511];
            for (int i = 0; i < calls.length; i++) {
                calls[i] = RANDOM.nextInt(24);
            }
            long before = bean.getCurrentThreadAllocatedBytes();
            TypedAmounts x = new TypedAmounts();
            for (int call : calls) {
                call(x, call);
            }
            long used = bean.getCurrentThreadAllocatedBytes() - before;
            if (run > 10) {
                most = Math.max(most, used);
            }
        }
        Check.due("more than 100,000 bytes of one run (" + most + ")", most > 100000, false);
        Check.end();
    }

    private static int any() {
        return RANDOM.nextInt(3) == 0 ? INTS[RANDOM.nextInt(INTS.length)] : RANDOM.nextInt(4);
    }

    private static long anyLong() {
        return RANDOM.nextInt(3) == 0 ? LONGS[RANDOM.nextInt(LONGS.length)] : RANDOM.nextInt(2000000000);
    }

    private static int sign() {
        return RANDOM.nextInt(20) == 0 ? any() : "0123456789,.' -()ABC/".charAt(RANDOM.nextInt(21));
    }

    private static void call(TypedAmounts x, int which) {
        switch (which) {
            case 0 -> x.land(sign() % 2 == 0 ? ',' : '.', RANDOM.nextBoolean() ? 0 : sign(), any() & 1, any() % 3, 0x414243, true, any() % 3, '/');
            case 1 -> x.key(sign());
            case 2 -> x.keys(sign() << 24 | sign() << 16 | sign() << 8 | sign());
            case 3 -> x.undo(any());
            case 4 -> x.bounds(any(), anyLong(), anyLong());
            case 5 -> x.value(any(), any());
            case 6 -> x.open(any(), any());
            case 7 -> x.good(any(), any());
            case 8 -> x.state(any(), any());
            case 9 -> x.show(any(), any(), anyLong(), any());
            case 10 -> x.words(RANDOM.nextInt());
            case 11 -> x.shown(any());
            case 12 -> x.take();
            case 13 -> x.spoken();
            case 14 -> x.other(any(), any(), any(), anyLong(), any());
            case 15 -> x.row();
            case 16 -> {
                if (RANDOM.nextInt(30) == 0) {
                    x.clear();
                }
            }
            case 17 -> x.fit(any());
            case 18 -> x.misfit(any(), any());
            case 19 -> x.sum(any(), any());
            case 20 -> x.count(any());
            case 21 -> x.image(any());
            case 22 -> {
                if (RANDOM.nextInt(30) == 0) {
                    x.again(any());
                }
            }
            default -> x.key('0' + RANDOM.nextInt(10));
        }
    }
}
