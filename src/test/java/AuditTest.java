import java.lang.reflect.Field;

/** Promise 25: audit, also on a disk that was tampered with behind the store's back. */
public final class AuditTest {
    private static final Check CHECK = new Check("AuditTest");

    public static void main(String[] args) throws Exception {
        refusals();
        afterAllChanges();
        tamperedRows();
        blocksInTwo();
        CHECK.end();
    }

    private static void refusals() {
        CubeStore s = new CubeStore(16);
        CHECK.state("audit when NEW", () -> s.audit());
        Check.run(s, Check.SHOPS);
        CHECK.state("audit with a catalog", () -> s.audit());
        s.open();
        CHECK.due("audit of nothing", s.audit(), 0);
        s.crash(0);
        CHECK.state("audit when DOWN", () -> s.audit());
    }

    private static void afterAllChanges() {
        CubeStore s = Check.opened(512, Check.SHOPS);
        for (int i = 0; i < 12; i++) {
            s.spread(i % 3 == 0 ? 1500 : 40, i);
            s.load();
            CHECK.due("audit of a load", s.audit(), 0);
            if (i % 4 == 1) {
                s.choose(i);
                CHECK.due("audit of a choice", s.audit(), 0);
            }
            if (i % 5 == 2) {
                s.settle();
                CHECK.due("audit of a settling", s.audit(), 0);
            }
        }
        s.stage(3);
        Check.run(s, "select count(*);");
        s.audit();
        CHECK.due("it leaves the batch", s.count(5), 3);
        CHECK.due("and the answer", s.rows(), 1);
    }

    private static Object inside(Object owner, String name) throws Exception {
        Field field = owner.getClass().getDeclaredField(name);
        field.setAccessible(true);
        return field.get(owner);
    }

    /** Changes one bit in each word of a choice's extent by turns: some of them must make rows wrong. */
    private static void tamperedRows() throws Exception {
        CubeStore s = Check.opened(64, Check.SHOPS);
        s.spread(600, 5);
        s.load();
        s.choose(3);
        long[] words = (long[]) inside(inside(s, "disk"), "words");
        int choice = 6 * 512;
        CHECK.due("the choice lies behind catalog and load", 62 - s.count(4), 5);
        int noticed = 0;
        for (int w = choice; w < choice + 128; w++) {
            words[w] ^= 1L << w % 64;
            if (s.audit() > 0) {
                noticed++;
            }
            words[w] ^= 1L << w % 64;
        }
        CHECK.due("noticed " + noticed + " of 128", noticed > 30, true);
        CHECK.due("all is well again", s.audit(), 0);
    }

    private static void blocksInTwo() throws Exception {
        CubeStore s = Check.opened(64, Check.SHOPS);
        for (int i = 0; i < 2; i++) {
            s.spread(600, i);
            s.load();
        }
        int[] starts = (int[]) inside(inside(s, "disk"), "starts");
        int[] lengths = (int[]) inside(inside(s, "disk"), "lengths");
        CHECK.due("blocks of a load", lengths[1], 3);
        starts[2] -= 2;
        CHECK.due("two blocks are in two extents", s.audit(), 2);
        starts[2] += 2;
        CHECK.due("none is", s.audit(), 0);
    }
}
