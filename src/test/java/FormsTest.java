import java.lang.reflect.Constructor;
import java.lang.reflect.Field;
import java.lang.reflect.InvocationTargetException;
import java.lang.reflect.Method;
import java.util.Arrays;
import java.util.Random;

/** The five forms of a column: each weighs what the document says, and gives back the cells that it was made of. */
public final class FormsTest {
    private static final Check CHECK = new Check("FormsTest");
    private static Object tape;
    private static Method write;
    private static Method read;
    private static Method skip;
    private static Field at;

    public static void main(String[] args) throws Exception {
        Class<?> type = Class.forName("CubeStore$Tape");
        Constructor<?> make = type.getDeclaredConstructor(long[].class);
        make.setAccessible(true);
        tape = make.newInstance((Object) new long[8192]);
        write = type.getDeclaredMethod("writeColumn", long[].class, int.class);
        read = type.getDeclaredMethod("readColumn", long[].class, int.class);
        skip = type.getDeclaredMethod("skipColumn");
        at = type.getDeclaredField("at");
        write.setAccessible(true);
        read.setAccessible(true);
        skip.setAccessible(true);
        at.setAccessible(true);
        byHand();
        atRandom();
        CHECK.end();
    }

    private static void clear() throws Exception {
        Method clear = tape.getClass().getDeclaredMethod("clear");
        clear.setAccessible(true);
        clear.invoke(tape);
    }

    /** Writes a column between two others, skips and reads them: how many bytes it took without its 20. */
    private static int bytes(long... cells) throws Exception {
        clear();
        long[] around = {5, -5, 77};
        write(around);
        int begin = at.getInt(tape);
        write(cells);
        int end = at.getInt(tape);
        write(around);
        int written = at.getInt(tape);
        at.setInt(tape, 0);
        CHECK.due("before it", Arrays.equals(read(3), around), true);
        CHECK.due("itself " + cells.length, Arrays.equals(read(cells.length), cells), true);
        CHECK.due("behind it", Arrays.equals(read(3), around), true);
        at.setInt(tape, begin);
        skip.invoke(tape);
        CHECK.due("skipped", at.getInt(tape), end);
        at.setInt(tape, written);
        return (end - begin) / 8 - 20;
    }

    private static void write(long[] cells) throws IllegalAccessException, InvocationTargetException {
        write.invoke(tape, cells, cells.length);
    }

    private static long[] read(int n) throws IllegalAccessException, InvocationTargetException {
        long[] cells = new long[n];
        read.invoke(tape, cells, n);
        return cells;
    }

    private static long[] made(int n, long first, long step) {
        long[] cells = new long[n];
        for (int i = 0; i < n; i++) {
            cells[i] = first + i * step;
        }
        return cells;
    }

    private static void byHand() throws Exception {
        CHECK.due("PLAIN of one", bytes(12345), 8);
        CHECK.due("PACKED of two alike", bytes(7, 7), 9);
        CHECK.due("PACKED of 1000 alike", bytes(made(1000, -3, 0)), 9);
        CHECK.due("PACKED with a bit each", bytes(4, 5, 4, 5, 5, 4, 4, 5, 4), 9 + 2);
        CHECK.due("PACKED with 63 bits", bytes(made(9, 0, Long.MAX_VALUE / 8)), 17);
        CHECK.due("STEPS of a row of numbers", bytes(made(1024, 9, 7)), 17);
        CHECK.due("STEPS that wrap around", bytes(made(1024, Long.MAX_VALUE - 100, 1L << 40)), 17);
        long[] uneven = made(1024, 0, 1000);
        uneven[500]++;
        CHECK.due("STEPS of 999 to 1001", bytes(uneven), 17 + (1023 * 2 + 7) / 8);
        long[] far = new long[100];
        for (int i = 0; i < 100; i++) {
            far[i] = i % 3 == 0 ? Long.MIN_VALUE : i % 3 == 1 ? 0 : Long.MAX_VALUE;
        }
        CHECK.due("LIST of three", bytes(far), 2 + 24 + 25);
        Arrays.fill(far, 0, 70, 3L << 50);
        Arrays.fill(far, 70, 100, -1L << 60);
        CHECK.due("RUNS of two", bytes(far), 22);
        Random random = new Random(1);
        CHECK.due("PLAIN of 1024", bytes(random.longs(1024).toArray()), 8192);
        CHECK.due("PLAIN of two far apart", bytes(Long.MIN_VALUE, Long.MAX_VALUE), 16);
    }

    private static void atRandom() throws Exception {
        Random random = new Random(2);
        for (int i = 0; i < 3000; i++) {
            int n = i % 3 == 0 ? 1 + random.nextInt(12) : 1 + random.nextInt(1024);
            long[] cells = new long[n];
            int shift = random.nextInt(64);
            int kind = random.nextInt(6);
            long[] few = random.longs(1 + random.nextInt(20)).toArray();
            for (int c = 0; c < n; c++) {
                long fresh = random.nextLong() >> shift;
                cells[c] = kind == 0 ? fresh : kind == 1 ? few[random.nextInt(few.length)]
                    : kind == 2 ? (c == 0 || random.nextInt(30) == 0 ? fresh : cells[c - 1])
                    : kind == 3 ? (c == 0 ? fresh : cells[c - 1] + few[0] + random.nextInt(5))
                    : kind == 4 ? fresh >>> 60 : (random.nextInt(9) == 0 ? fresh : few[0]);
            }
            CHECK.due("column " + i, bytes(cells), Model.formWeight(cells));
        }
    }
}
