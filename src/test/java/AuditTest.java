import java.lang.reflect.Field;
import java.util.Arrays;
import java.util.Random;

/** Promise 25: audit, also on a disk that was tampered with behind the store's back. */
public final class AuditTest {
    private static final Check CHECK = new Check("AuditTest");

    public static void main(String[] args) throws Exception {
        refusals();
        afterAllChanges();
        tamperedRows();
        eachWrongRow();
        blocksInTwo();
        CHECK.end();
    }

    private static void refusals() {
        CubeStore s = new CubeStore(16);
        CHECK.state("audit when NEW", () -> s.audit());
        Check.run(s, Check.SHOPS);
        CHECK.state("audit with a catalog", () -> s.audit());
        s.open();
        CHECK.due("audit of nothing", s.audit(), 0);
        s.crash(0);
        CHECK.state("audit when DOWN", () -> s.audit());
    }

    private static void afterAllChanges() {
        CubeStore s = Check.opened(512, Check.SHOPS);
        for (int i = 0; i < 12; i++) {
            s.spread(i % 3 == 0 ? 1500 : 40, i);
            s.load();
            CHECK.due("audit of a load", s.audit(), 0);
            if (i % 4 == 1) {
                s.choose(i);
                CHECK.due("audit of a choice", s.audit(), 0);
            }
            if (i % 5 == 2) {
                s.settle();
                CHECK.due("audit of a settling", s.audit(), 0);
            }
        }
        s.stage(3);
        Check.run(s, "select count(*);");
        s.audit();
        CHECK.due("it leaves the batch", s.count(5), 3);
        CHECK.due("and the answer", s.rows(), 1);
    }

    private static Object inside(Object owner, String name) throws Exception {
        Field field = owner.getClass().getDeclaredField(name);
        field.setAccessible(true);
        return field.get(owner);
    }

    /** Changes one bit in each word of a choice's extent by turns: some of them must make rows wrong. */
    private static void tamperedRows() throws Exception {
        CubeStore s = Check.opened(64, Check.SHOPS);
        s.spread(600, 5);
        s.load();
        s.choose(3);
        long[] words = (long[]) inside(inside(s, "disk"), "words");
        int choice = 6 * 512;
        CHECK.due("the choice lies behind catalog and load", 62 - s.count(4), 5);
        int noticed = 0;
        for (int w = choice; w < choice + 128; w++) {
            words[w] ^= 1L << w % 64;
            if (s.audit() > 0) {
                noticed++;
            }
            words[w] ^= 1L << w % 64;
        }
        CHECK.due("noticed " + noticed + " of 128", noticed > 30, true);
        CHECK.due("all is well again", s.audit(), 0);
    }

    /** Where cells stand behind one another, 64 bits each, on a disk; bits count from the lowest of the first word. */
    private static int find(long[] words, long... cells) {
        for (int at = 0; at < (words.length - cells.length - 1) * 64; at += 8) {
            int found = 0;
            while (found < cells.length && cellAt(words, at + 64 * found) == cells[found]) {
                found++;
            }
            if (found == cells.length) {
                return at;
            }
        }
        return -1;
    }

    private static long cellAt(long[] words, int at) {
        int shift = at & 63;
        return shift == 0 ? words[at >> 6] : words[at >> 6] >>> shift | words[(at >> 6) + 1] << 64 - shift;
    }

    /** "how many rows of views are not what the facts' rows give": a row with two wrong cells is one. */
    private static void eachWrongRow() throws Exception {
        CubeStore s = Check.opened(64, "dimension a(x);measure m;measure k;member a" + Check.repeat("(#)", 20, ",") + ";");
        Random random = new Random(5);
        long[][] amounts = new long[2][20];
        for (int i = 0; i < 20; i++) {
            for (int m = 0; m < 2; m++) {
                amounts[m][i] = random.nextLong();
                s.amount(m, amounts[m][i]);
            }
            s.key(0, i);
            s.stage(2);
        }
        s.load();
        CHECK.due("choose", s.choose(1), 1);
        CHECK.due("the view of all", s.view(0, 0), 0);
        CHECK.due("audit", s.audit(), 0);
        long[] words = (long[]) inside(inside(s, "disk"), "words");
        // Its extent lies at block 4; the least amounts of both measures stand there as they are.
        long[] choice = Arrays.copyOfRange(words, 4 * 512, 5 * 512);
        int first = find(choice, amounts[0]);
        int second = find(choice, amounts[1]);
        CHECK.due("both columns are found", first >= 0 && second >= 0, true);
        int wrong = 0;
        for (int i = 0; i < 20; i++) {
            flip(words, 4 * 512 * 64 + first + 64 * i + 3);
            CHECK.due("one more row is wrong", s.audit(), ++wrong);
            flip(words, 4 * 512 * 64 + second + 64 * i + 40);
            CHECK.due("it is wrong in two cells", s.audit(), wrong);
        }
        for (int i = 0; i < 20; i++) {
            flip(words, 4 * 512 * 64 + first + 64 * i + 3);
            CHECK.due("it is still wrong in one", s.audit(), wrong);
            flip(words, 4 * 512 * 64 + second + 64 * i + 40);
            CHECK.due("it is right again", s.audit(), --wrong);
        }
    }

    private static void flip(long[] words, int bit) {
        words[bit >> 6] ^= 1L << (bit & 63);
    }

    private static void blocksInTwo() throws Exception {
        CubeStore s = Check.opened(64, Check.SHOPS);
        for (int i = 0; i < 2; i++) {
            s.spread(600, i);
            s.load();
        }
        int[] starts = (int[]) inside(inside(s, "disk"), "starts");
        int[] lengths = (int[]) inside(inside(s, "disk"), "lengths");
        CHECK.due("blocks of a load", lengths[1], 3);
        starts[2] -= 2;
        CHECK.due("two blocks are in two extents", s.audit(), 2);
        starts[2] += 2;
        CHECK.due("none is", s.audit(), 0);
    }
}
