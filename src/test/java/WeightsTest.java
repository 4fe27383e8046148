import java.util.ArrayList;
import java.util.Arrays;
import java.util.HashMap;
import java.util.List;
import java.util.Map;
import java.util.Random;

/**
 * "WEIGHTS in bytes": each of the five forms at its edges, as it shows in how many blocks a load or a choice has. A
 * column whose weight is written here by hand stands beside seven others that make the extent weigh just some whole
 * blocks, and then one byte more: a byte too much or too little would show in one of the two.
 */
public final class WeightsTest {
    private static final Check CHECK = new Check("WeightsTest");
    private static final Random RANDOM = new Random(11);
    private static final int BLOCK = 4096;
    private static final int PADS = 7;

    /** Columns of so many cells to choose from, what each weighs, and by weight two that have it together. */
    private static final class Pads {
        final List<long[]> columns = new ArrayList<>();
        final List<Long> weights = new ArrayList<>();
        final Map<Long, int[]> pairs = new HashMap<>();
    }

    private static final Map<Integer, Pads> FACT_PADS = new HashMap<>();
    private static final Map<Integer, Pads> VIEW_PADS = new HashMap<>();

    public static void main(String[] args) {
        plain();
        packed();
        packedAtTheEndsOfLongs();
        list();
        runs();
        steps();
        stepsThatWrap();
        shortestOfAll();
        segments();
        views();
        CHECK.end();
    }

    private static long[] random(int n, long least, long most) {
        long[] cells = new long[n];
        for (int i = 0; i < n; i++) {
            cells[i] = least + (most - least == -1 ? RANDOM.nextLong() : Long.remainderUnsigned(RANDOM.nextLong(), most - least + 1));
        }
        // Both ends are there, apart from one another.
        cells[n / 3] = least;
        cells[n / 2] = most;
        return cells;
    }

    /** So many different cells, by turns and at random. */
    private static long[] different(int n, int d) {
        long[] values = RANDOM.longs(d).toArray();
        long[] cells = new long[n];
        for (int i = 0; i < n; i++) {
            cells[i] = values[i < d ? i : RANDOM.nextInt(d)];
        }
        return cells;
    }

    /** So many runs of cells, no two of them the same. */
    private static long[] stretches(int n, int r) {
        long[] values = RANDOM.longs(r).toArray();
        long[] cells = new long[n];
        for (int i = 0; i < n; i++) {
            cells[i] = values[Math.min(r - 1, i * r / n)];
        }
        return cells;
    }

    private static long[] rising(int n, long first, long step) {
        long[] cells = new long[n];
        for (int i = 0; i < n; i++) {
            cells[i] = first + i * step;
        }
        return cells;
    }

    /** Steps between two bounds, both of which are there. */
    private static long[] climbing(int n, long first, long leastStep, long mostStep) {
        long[] cells = new long[n];
        cells[0] = first;
        for (int i = 1; i < n; i++) {
            long step = i % 7 == 1 ? leastStep : i % 7 == 2 ? mostStep
                : leastStep + Long.remainderUnsigned(RANDOM.nextLong(), mostStep - leastStep + 1);
            cells[i] = cells[i - 1] + step;
        }
        return cells;
    }

    private static long weightOf(long[] cells) {
        long weight = 0;
        for (int from = 0; from < cells.length; from += 1024) {
            int to = Math.min(cells.length, from + 1024);
            weight += Model.formWeight(Arrays.copyOfRange(cells, from, to));
        }
        return weight;
    }

    /** In a view of two facts for each row, alike: a column of sums, and the least and the greatest. */
    private static long weightInView(long[] cells) {
        return weightOf(doubled(cells)) + 2 * weightOf(cells);
    }

    private static long[] doubled(long[] cells) {
        long[] sums = new long[cells.length];
        for (int i = 0; i < cells.length; i++) {
            sums[i] = 2 * cells[i];
        }
        return sums;
    }

    private static Pads padsFor(int n, boolean inView) {
        Map<Integer, Pads> known = inView ? VIEW_PADS : FACT_PADS;
        if (known.containsKey(n)) {
            return known.get(n);
        }
        Pads pads = new Pads();
        for (int r = 1; r <= 60 && r < n; r++) {
            pads.columns.add(stretches(n, r));
        }
        for (int bits = 1; bits <= 62; bits++) {
            pads.columns.add(random(n, 1, 1L << bits));
            pads.columns.add(different(n, 1 + bits * 3 % n));
            long[] half = random(n, 1, 1L << bits);
            Arrays.fill(half, 0, n * 3 / 4, 5);
            pads.columns.add(half);
        }
        for (long[] column : pads.columns) {
            pads.weights.add(inView ? weightInView(column) : weightOf(column));
        }
        for (int i = 0; i < pads.columns.size(); i++) {
            for (int j = 0; j < pads.columns.size(); j++) {
                pads.pairs.put(pads.weights.get(i) + pads.weights.get(j), new int[] {i, j});
            }
        }
        known.put(n, pads);
        return pads;
    }

    /** Seven columns that weigh so much together; null if none are found. */
    private static long[][] padding(Pads pads, long total) {
        for (int tries = 0; tries < 4000; tries++) {
            int[] chosen = new int[PADS];
            long rest = total;
            for (int i = 0; i < PADS - 2; i++) {
                chosen[i] = RANDOM.nextInt(pads.columns.size());
                rest -= pads.weights.get(chosen[i]);
            }
            int[] pair = pads.pairs.get(rest);
            if (pair != null) {
                chosen[PADS - 2] = pair[0];
                chosen[PADS - 1] = pair[1];
                long[][] columns = new long[PADS][];
                for (int i = 0; i < PADS; i++) {
                    columns[i] = pads.columns.get(chosen[i]);
                }
                return columns;
            }
        }
        return null;
    }

    /** What a load weighs but for its measures' forms: the only dimension has one member, so its column is all 0. */
    private static long frame(int n) {
        long weight = 8 + 4;
        for (int from = 0; from < n; from += 1024) {
            int rows = Math.min(1024, n - from);
            weight += 2 + 20 + (rows == 1 ? 8 : 9) + 8 * 20;
        }
        return weight;
    }

    private static CubeStore store(int members) {
        return Check.opened(512, "dimension a(x);" + Check.repeat("measure m#;", 8, "") + "member a" + Check.repeat("(#)", members, ",") + ";");
    }

    /** The column stands in the first measure; a load of it must have just so many blocks. */
    private static void due(String what, long[] cells, long weight) {
        int n = cells.length;
        Pads pads = padsFor(n, false);
        for (int over = 0; over <= 1; over++) {
            long[][] found = null;
            long blocks = (frame(n) + weight + 9 * PADS) / BLOCK + 1;
            for (; found == null && blocks < 60; blocks++) {
                found = padding(pads, blocks * BLOCK + over - frame(n) - weight);
            }
            CHECK.due("columns beside " + what, found != null, true);
            if (found == null) {
                return;
            }
            CubeStore s = store(1);
            for (int i = 0; i < n; i++) {
                s.amount(0, cells[i]);
                for (int p = 0; p < PADS; p++) {
                    s.amount(p + 1, found[p][i]);
                }
                s.stage(1);
            }
            int free = s.count(4);
            CHECK.due("load", s.load(), 1);
            CHECK.due("blocks of " + what + " and " + over, free - s.count(4), blocks - 1 + over);
            CHECK.due("settled, too", s.settle() - 1, blocks - 1 + over);
            long sum = 0;
            for (long cell : cells) {
                sum += cell;
            }
            CHECK.answers(s, "select sum(m0), count(*);", 2, sum + " " + n);
        }
    }

    /** "PLAIN 8 n". */
    private static void plain() {
        for (int n : new int[] {400, 1023, 1024}) {
            due("PLAIN of " + n, RANDOM.longs(n).toArray(), 8L * n);
        }
    }

    private static long bytes(long bits) {
        return bits / 8 + (bits % 8 == 0 ? 0 : 1);
    }

    /** "PACKED 9 + n bits(greatest - least) / 8", "bits(x) how many binary digits x has (0 for 0)". */
    private static void packed() {
        due("PACKED of one value", rising(1024, 77, 0), 9);
        due("PACKED of one value", rising(1024, Long.MIN_VALUE, 0), 9);
        for (int bits : new int[] {1, 2, 3, 7, 8, 9, 31, 32, 33, 55, 62}) {
            for (long least : new long[] {0, -5, 1L << 40}) {
                due("PACKED of " + bits + " bits", random(1024, least, least + (1L << bits) - 1), 9 + 128L * bits);
            }
            due("PACKED of one more than " + bits + " bits", random(1024, -9, -9 + (1L << bits)), 9 + 128L * (bits + 1));
        }
        for (int n : new int[] {1016, 1017, 1023}) {
            due("PACKED of 1 bit of " + n, random(n, 4, 5), 9 + bytes(n));
            due("PACKED of 5 bits of " + n, random(n, 4, 35), 9 + bytes(5L * n));
        }
    }

    /** "(the difference as a number without a sign)". */
    private static void packedAtTheEndsOfLongs() {
        due("PACKED up to the greatest long", random(1024, 0, Long.MAX_VALUE), 9 + 128 * 63);
        due("PACKED from the least long", random(1024, Long.MIN_VALUE, -1), 9 + 128 * 63);
        due("64 bits are PLAIN", random(1024, -1, Long.MAX_VALUE), 8192);
        due("64 bits are PLAIN", random(1024, Long.MIN_VALUE, 0), 8192);
        due("64 bits are PLAIN", random(1024, Long.MIN_VALUE, Long.MAX_VALUE), 8192);
        due("PACKED over 0", random(1024, -(1L << 61), (1L << 61) - 1), 9 + 128 * 62);
        due("PACKED over 0, one more", random(1024, -(1L << 61), 1L << 61), 9 + 128 * 63);
        // For few cells the nine bytes count: 8 n is 9 + n 63 / 8 for 72 of them.
        due("PLAIN of 71", random(71, 0, Long.MAX_VALUE), 568);
        due("PACKED or PLAIN of 72", random(72, 0, Long.MAX_VALUE), 576);
        due("PACKED of 80", random(80, 0, Long.MAX_VALUE), 639);
    }

    /** "LIST 2 + 8 d + n bits(d - 1) / 8, d being how many different cells there are". */
    private static void list() {
        int[] d = {2, 3, 4, 5, 8, 9, 16, 17, 32, 33, 64, 65, 128, 129, 256, 257, 512, 513};
        int[] bits = {1, 2, 2, 3, 3, 4, 4, 5, 5, 6, 6, 7, 7, 8, 8, 9, 9, 10};
        for (int i = 0; i < d.length; i++) {
            due("LIST of " + d[i], different(1024, d[i]), 2 + 8L * d[i] + 128L * bits[i]);
        }
        for (int n : new int[] {1016, 1017, 1023}) {
            due("LIST of 2 in " + n, different(n, 2), 2 + 16 + bytes(n));
            due("LIST of 5 in " + n, different(n, 5), 2 + 40 + bytes(3L * n));
        }
        // 2 + 8 d + 1280 is 8192 at d = 863.75: from 864 on PLAIN is shorter.
        due("LIST of 863", different(1024, 863), 2 + 8 * 863 + 1280);
        due("PLAIN of 864", different(1024, 864), 8192);
    }

    /** "RUNS 2 + 10 r, r being how many rows of the same cell there are behind one another". */
    private static void runs() {
        for (int r : new int[] {2, 3, 10, 16}) {
            due("RUNS of " + r, stretches(1024, r), 2 + 10L * r);
        }
        // 2 + 10 r and 2 + 8 r + 128 * 10 are the same at r = 640.
        due("RUNS of 639", stretches(1024, 639), 6392);
        due("RUNS or LIST of 640", stretches(1024, 640), 6402);
        due("LIST of 641", stretches(1024, 641), 6410);
        // One value that comes again is a run of its own each time.
        long[] again = stretches(1024, 9);
        Arrays.fill(again, 1000, 1024, again[0]);
        due("RUNS of 9 with one again", again, 2 + 10 * 10);
        long[] single = rising(1024, 1L << 50, 0);
        single[500] = -3;
        due("RUNS of one in the middle", single, 32);
        single[500] = 1L << 50;
        single[1023] = -3;
        due("RUNS of one at the end", single, 22);
        single[1023] = 1L << 50;
        single[0] = -3;
        due("RUNS of one at the beginning", single, 22);
    }

    /** "STEPS 17 + (n - 1) bits(greatest step - least step) / 8, steps being each cell but the first less the one before". */
    private static void steps() {
        due("STEPS of one step", rising(1024, 5, 1), 17);
        due("STEPS of one step down", rising(1024, 5, -1_000_000_007L), 17);
        for (int bits : new int[] {1, 2, 7, 8, 9, 20, 33}) {
            due("STEPS of " + bits + " bits", climbing(1024, -77, 1L << 48, (1L << 48) + (1L << bits) - 1), 17 + bytes(1023L * bits));
            due("STEPS of one more than " + bits + " bits", climbing(1024, -77, -(1L << 48), -(1L << 48) + (1L << bits)),
                17 + bytes(1023L * (bits + 1)));
        }
        for (int n : new int[] {1017, 1018, 1023}) {
            due("STEPS of 1 bit of " + n, climbing(n, 9, 1L << 48, (1L << 48) + 1), 17 + bytes(n - 1));
        }
    }

    /** "wrapping, greatest and least as longs, their difference without a sign". */
    private static void stepsThatWrap() {
        due("STEPS over the greatest long", rising(1024, Long.MAX_VALUE - 500, 1), 17);
        due("STEPS over the least long", rising(1024, Long.MIN_VALUE + 500, -1), 17);
        due("STEPS all round", rising(1024, 3, 0x7F4A7C159E3779B9L), 17);
        due("STEPS of half a round", rising(1024, 3, Long.MIN_VALUE), 17);
        due("STEPS all round with a bit", climbing(1024, 3, 0x7F4A7C159E3779B9L, 0x7F4A7C159E3779BAL), 17 + 128);
        due("STEPS of 63 bits up", climbing(1024, 3, 0, Long.MAX_VALUE), 17 + bytes(1023 * 63));
        due("STEPS of 63 bits down", climbing(1024, 3, Long.MIN_VALUE, -1), 17 + bytes(1023 * 63));
        due("steps of 64 bits are PLAIN", climbing(1024, 3, -1, Long.MAX_VALUE), 8192);
        due("steps of 64 bits are PLAIN", climbing(1024, 3, Long.MIN_VALUE, 0), 8192);
        due("steps of 64 bits are PLAIN", climbing(1024, 3, Long.MIN_VALUE, Long.MAX_VALUE - 1), 8192);
    }

    /** Columns that two forms are near to one another for: the shortest one counts. */
    private static void shortestOfAll() {
        // Cells 0 and 1 by turns: PACKED 137, LIST 146, STEPS of -1 and 1 17 + 256.
        long[] turns = new long[1024];
        for (int i = 0; i < 1024; i++) {
            turns[i] = i % 2;
        }
        due("PACKED by turns", turns, 137);
        // 0 and 511 by turns at random: PACKED 9 bits 1161, LIST 146.
        long[] apart = new long[1024];
        for (int i = 0; i < 1024; i++) {
            apart[i] = RANDOM.nextBoolean() ? 0 : 511;
        }
        due("LIST of 0 and 511", apart, 146);
        // Two runs of 0 and 1: RUNS 22, PACKED 137, STEPS 17 + 128.
        long[] two = new long[1024];
        Arrays.fill(two, 700, 1024, 1);
        due("RUNS of two", two, 22);
        // 13 runs: RUNS 132, PACKED 137; 14 runs: RUNS 142, PACKED 137.
        for (int r = 13; r <= 14; r++) {
            long[] many = new long[1024];
            for (int i = 0; i < 1024; i++) {
                many[i] = i * r / 1024 % 2;
            }
            due("of " + r + " runs", many, r == 13 ? 132 : 137);
        }
        // Places 0 to 1023: STEPS 17, PACKED 1289.
        due("STEPS of places", rising(1024, 0, 1), 17);
    }

    /** "Parts are cut into SEGMENTS of 1024 rows, but for the last one": the last one has 1, 2, 3 cells, or all. */
    private static void segments() {
        due("1024 and 1 alike", rising(1025, 6, 0), 9 + 8);
        due("1024 and 2 alike", rising(1026, 6, 0), 9 + 9);
        due("1024 and 1 rising", rising(1025, 6, 9), 17 + 8);
        due("1024 and 2 rising", rising(1026, 6, 1L << 50), 17 + 16);
        due("1024 and 3 rising", rising(1027, 6, 1L << 50), 17 + 17);
        due("1024 and 3 rising by 1", rising(1027, 6, 1), 17 + 10);
        due("1024 and 1024 alike", rising(2048, 6, 0), 9 + 9);
        due("1024 twice and 1", rising(2049, 6, 1), 17 + 17 + 8);
        // A run over the end of a segment is one in each.
        long[] over = new long[1100];
        Arrays.fill(over, 1000, 1100, 1L << 45);
        due("a run over the end of a segment", over, 22 + 9);
        long[] at = new long[1100];
        Arrays.fill(at, 1024, 1100, 1L << 45);
        due("a run from the end of a segment on", at, 9 + 9);
        long[] behind = new long[1100];
        Arrays.fill(behind, 1025, 1100, 1L << 45);
        due("a run from behind it on", behind, 9 + 22);
    }

    /** A view's table: places, how many facts, and three columns for each measure; of a choice, "8 and its parts". */
    private static void views() {
        for (int n : new int[] {100, 257, 999, 1000}) {
            dueInView("PLAIN", RANDOM.longs(n).toArray(), 3 * 8L * n);
            dueInView("PACKED of one value", rising(n, 1000, 0), 3 * 9);
            dueInView("STEPS", rising(n, 1000, 5), 3 * 17);
            dueInView("PACKED of 8 bits, sums of 9", random(n, 0, 255), 9 + bytes(9L * n) + 2 * (9 + n));
        }
    }

    /** There are n members with two facts each, all alike, so places are STEPS of 1, and the facts are 2 each. */
    private static void dueInView(String what, long[] cells, long weight) {
        int n = cells.length;
        Pads pads = padsFor(n, true);
        long frame = 8 + 4 + 2 + 20 + 17 + 20 + 9 + 24 * 20;
        for (int over = 0; over <= 1; over++) {
            long[][] found = null;
            long blocks = (frame + weight + 27 * PADS) / BLOCK + 1;
            for (; found == null && blocks < 60; blocks++) {
                found = padding(pads, blocks * BLOCK + over - frame - weight);
            }
            CHECK.due("columns beside a view of " + n, found != null, true);
            if (found != null) {
                blocksOfView(what, cells, found, blocks - 1 + over);
            }
        }
    }

    private static void blocksOfView(String what, long[] cells, long[][] pads, long blocks) {
        int n = cells.length;
        CubeStore s = store(n);
        for (int i = 0; i < n; i++) {
            s.key(0, i);
            s.amount(0, cells[i]);
            for (int p = 0; p < PADS; p++) {
                s.amount(p + 1, pads[p][i]);
            }
            s.stage(2);
        }
        s.load();
        int free = s.count(4);
        CHECK.due("choose", s.choose(1), 1);
        CHECK.due("it has the dimension", s.view(0, 0), 0);
        CHECK.due("blocks of a view of " + n + ": " + what, free - s.count(4), blocks);
        CHECK.due("audit", s.audit(), 0);
    }
}
