import java.util.Random;

/** All promises: whatever the arguments are, a call answers; what is refused changes nothing. */
public final class AnyArgumentsTest {
    private static final int RUNS = 3000;
    private static final int[] NUMBERS = {Integer.MIN_VALUE, Integer.MIN_VALUE + 1, -105, -104, -2, -1, 0, 1, 2, 3, 4, 5,
        6, 7, 8, 9, 10, 11, 12, 13, 31, 32, 33, 59, 60, 61, 199, 200, 201, 512, 1000, 1001, Integer.MAX_VALUE};
    private static final long[] LONGS = {Long.MIN_VALUE, -1000000000001L, -1000000000000L, -1, 0, 1, 2,
        1000000000000L, 1000000000001L, Long.MAX_VALUE};
    private static final Due due = new Due("AnyArgumentsTest");
    private static Random random;

    public static void main(String[] args) {
        for (int seed = 0; seed < RUNS; seed++) {
            random = new Random(seed);
            QueryRunner x = new QueryRunner();
            int done = 0;
            try {
                for (int call = 0; call < 512; call++) {
                    anyCall(x);
                    done++;
                }
            } catch (RuntimeException | StackOverflowError e) {
                System.out.println("seed " + seed + ": " + e);
            }
            due.is("seed " + seed + ": calls that answered", done, 512);
        }
        due.end();
    }

    private static int any() {
        return random.nextInt(4) == 0 ? NUMBERS[random.nextInt(NUMBERS.length)] : random.nextInt(12) - 1;
    }

    private static long anyLong() {
        return LONGS[random.nextInt(LONGS.length)];
    }

    private static boolean either() {
        return random.nextBoolean();
    }

    private static void anyCall(QueryRunner x) {
        switch (random.nextInt(17)) {
            case 0 -> x.table(any());
            case 1 -> x.insert(any(), anyLong(), anyLong(), anyLong(), anyLong(), any());
            case 2 -> {
                if (random.nextInt(10) == 0) {
                    x.fresh();
                }
            }
            case 3 -> x.constant(anyLong(), either());
            case 4 -> x.column(any(), any());
            case 5, 6 -> x.op(any(), any(), any());
            case 7 -> x.aggregate(any(), any(), either());
            case 8 -> x.source(any(), any(), any());
            case 9 -> x.condition(any(), any());
            case 10 -> x.group(any());
            case 11 -> x.item(any());
            case 12 -> x.order(any(), either());
            case 13 -> x.shape(either(), any(), any());
            case 14 -> x.run();
            case 15 -> x.cell(any(), any());
            default -> {
                x.isNull(any(), any());
                x.answer(any());
            }
        }
    }
}
