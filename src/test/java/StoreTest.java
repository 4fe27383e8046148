/** Promises 1, 6 to 11, 17 and 19: a new object, open, the fact in the making, the batch, states and counts. */
public final class StoreTest {
    private static final Check CHECK = new Check("StoreTest");
    private static final String SMALL = "dimension a(x);dimension b(y);measure m;measure k;"
        + "member a(7),(-5),(2);member b(3),(1);";

    public static void main(String[] args) {
        newObject();
        opening();
        catalogWeight();
        openingFull();
        making();
        staging();
        spreading();
        dropping();
        limits();
        counting();
        CHECK.end();
    }

    private static void newObject() {
        int[] asked = {16, 15, 0, -7, Integer.MIN_VALUE, 17, 100, 512, 513, Integer.MAX_VALUE};
        int[] blocks = {16, 16, 16, 16, 16, 17, 100, 512, 512, 512};
        for (int i = 0; i < asked.length; i++) {
            CHECK.due("free blocks of " + asked[i], new CubeStore(asked[i]).count(4), blocks[i] - 2);
        }
        CubeStore s = new CubeStore(20);
        CHECK.due("state", s.state(), 0);
        CHECK.due("writes", s.writes(), 0);
        int[] counts = {0, 0, 0, 0, 18, 0, 0};
        for (int what = 0; what < counts.length; what++) {
            CHECK.due("count(" + what + ")", s.count(what), counts[what]);
        }
        CHECK.due("rows", s.rows(), -1);
        CHECK.state("served", () -> s.served());
        CHECK.argument("cell", () -> s.cell(0, 0));
        CHECK.argument("isBlank", () -> s.isBlank(0, 0));
        CHECK.argument("view", () -> s.view(0, 0));
        CHECK.argument("key without a dimension", () -> s.key(0, 0));
        CHECK.argument("amount without a measure", () -> s.amount(0, 0));
        CHECK.state("stage", () -> s.stage(1));
        CHECK.state("spread", () -> s.spread(1, 1));
        CHECK.argument("stage 0", () -> s.stage(0));
        CHECK.argument("spread 0", () -> s.spread(0, 0));
        CHECK.state("drop", () -> s.drop());
        CHECK.state("load", () -> s.load());
        CHECK.state("choose", () -> s.choose(1));
        CHECK.argument("choose 17", () -> s.choose(17));
        CHECK.state("settle", () -> s.settle());
        CHECK.state("audit", () -> s.audit());
        CHECK.state("open without a catalog", () -> s.open());
        CHECK.due("recover", s.recover(), -1);
        CHECK.due("still NEW", s.state(), 0);
    }

    private static void opening() {
        CubeStore s = new CubeStore(16);
        Check.run(s, "dimension a(x);");
        CHECK.state("open without a measure and members", () -> s.open());
        Check.run(s, "member a(1);");
        CHECK.state("open without a measure", () -> s.open());
        Check.run(s, "measure m;dimension b(x);");
        CHECK.state("open with a dimension without members", () -> s.open());
        Check.run(s, "member b(1);");
        CHECK.due("state before", s.state(), 0);
        CHECK.argument("key of no dimension", () -> s.key(2, 1));
        CHECK.state("key before open", () -> s.key(1, 1));
        CHECK.argument("amount of no measure", () -> s.amount(1, 1));
        CHECK.state("amount before open", () -> s.amount(0, 1));
        CHECK.due("open", s.open(), 2);
        CHECK.due("state behind", s.state(), 1);
        CHECK.due("writes", s.writes(), 2);
        CHECK.due("extents", s.count(3), 1);
        CHECK.due("free blocks", s.count(4), 13);
        CHECK.state("open again", () -> s.open());
        CubeStore only = new CubeStore(16);
        Check.run(only, "measure m;");
        CHECK.state("open without a dimension", () -> only.open());
        CubeStore cut = new CubeStore(16);
        Check.run(cut, SMALL);
        cut.crash(2);
        CHECK.due("open is cut at its manifest", cut.open(), -3);
        CHECK.due("DOWN then", cut.state(), 2);
        CHECK.state("open when DOWN", () -> cut.open());
        CHECK.due("but the catalog is there", cut.recover(), 0);
        CHECK.due("OPEN then", cut.state(), 1);
        CHECK.due("with its members", cut.key(0, -5), true);
    }

    /** A catalog weighs 14, its three names, and 4 for each member here: 4096 is one block, 4097 two. */
    private static void catalogWeight() {
        String forty = "abcdefghijklmnopqrstuvwxyzabcdefghijklmn";
        String members = Check.repeat("(#)", 1000, ",");
        for (int extra = 2; extra <= 3; extra++) {
            CubeStore s = new CubeStore(16);
            Check.run(s, "dimension " + forty + "(" + forty + ");measure " + "mmm".substring(0, extra) + ";member " + forty + members + ";");
            CHECK.due("open of a catalog of " + (4094 + extra), s.open(), extra);
        }
        // 8 + 2 * (4 + 1) + 6 levels with names of 1 letter, 12, + 4 * (4 * 150 + 2 * 424) + measure 2 = 5824
        CubeStore s = new CubeStore(16);
        Check.run(s, "dimension a(x,y,z,w);measure m;dimension b(x,y);member a" + Check.repeat("(#,0,0,0)", 150, ",") + ";");
        Check.run(s, "member b" + Check.repeat("(#,1)", 424, ",") + ";");
        CHECK.due("blocks of 5824 bytes", s.open(), 3);
    }

    /** More than 512 calls are needed for a catalog that does not fit on the least disk. */
    private static void openingFull() {
        CubeStore s = new CubeStore(16);
        for (int d = 0; d < 4; d++) {
            Check.run(s, "dimension d" + d + "(a,b,c,e);");
            for (int i = 0; i < (d < 3 ? 1000 : 560); i += 10) {
                Check.run(s, "member d" + d + Check.repeat("(" + i + "#,1,1,1)", 10, ",") + ";");
            }
        }
        Check.run(s, "measure m;");
        // 8 + 4 * (4 + 2 + 4 * 2) + 16 * 3560 + 2 = 57026, 14 blocks have 57344
        Check.run(s, "member d3" + Check.repeat("(9#,1,1,1)", 19, ",") + ";");
        Check.run(s, "member d3 (1234567,1,1,1);");
        CHECK.due("one member too many", s.open(), -2);
        CHECK.due("it is still NEW", s.state(), 0);
        CHECK.due("nothing is written", s.writes(), 0);
        CHECK.due("nothing is there", s.count(3), 0);
        s.recover();
        CHECK.due("recovered", s.state(), 0);
    }

    private static void making() {
        CubeStore s = Check.opened(64, SMALL);
        CHECK.argument("key(-1)", () -> s.key(-1, 2));
        CHECK.argument("key(2)", () -> s.key(2, 2));
        CHECK.argument("amount(-1)", () -> s.amount(-1, 2));
        CHECK.argument("amount(2)", () -> s.amount(2, 2));
        s.stage(1);
        CHECK.due("amounts are 0 at first", s.amount(0, Long.MIN_VALUE), 0);
        CHECK.due("the one before", s.amount(0, 5), Long.MIN_VALUE);
        CHECK.due("the other measure", s.amount(1, 6), 0);
        CHECK.due("key of a member", s.key(0, 2), true);
        CHECK.due("key of none", s.key(0, 3), false);
        CHECK.due("the other dimension's value", s.key(1, 2), false);
        CHECK.due("the last member", s.key(1, 3), true);
        s.stage(2);
        s.load();
        CHECK.answers(s, "select a.x, b.y, count(*), sum(m), sum(k) group by a.x, b.y;", 5, "-5 1 1 0 0 / 2 3 2 10 12");
        s.stage(1);
        s.load();
        CHECK.answers(s, "select a.x, b.y, count(*), sum(m), sum(k) group by a.x, b.y;", 5, "-5 1 1 0 0 / 2 3 3 15 18");
        s.recover();
        CHECK.due("amounts are 0 after recovery", s.amount(0, 1), 0);
        s.stage(1);
        s.load();
        CHECK.answers(s, "select a.x, b.y, count(*), sum(m), sum(k) group by a.x, b.y;", 5, "-5 1 2 1 0 / 2 3 3 15 18");
        s.crash(0);
        CHECK.argument("key when DOWN: there is no catalog", () -> s.key(0, 2));
        CHECK.argument("amount when DOWN", () -> s.amount(0, 2));
    }

    private static void staging() {
        CubeStore s = Check.opened(64, SMALL);
        CHECK.argument("stage(0)", () -> s.stage(0));
        CHECK.argument("stage(1001)", () -> s.stage(1001));
        CHECK.argument("stage(-1)", () -> s.stage(-1));
        for (int i = 1; i <= 8; i++) {
            CHECK.due("stage(1000)", s.stage(1000), 1000 * i);
        }
        CHECK.state("stage beyond 8192", () -> s.stage(193));
        CHECK.due("refused ones are not staged", s.count(5), 8000);
        CHECK.due("stage up to 8192", s.stage(192), 8192);
        CHECK.state("stage on a full batch", () -> s.stage(1));
        CHECK.state("spread on a full batch", () -> s.spread(1, 1));
        CHECK.due("facts are none yet", s.count(1), 0);
        s.crash(0);
        CHECK.state("stage when DOWN", () -> s.stage(1));
        CHECK.argument("stage(0) when DOWN", () -> s.stage(0));
    }

    private static void spreading() {
        CubeStore s = Check.opened(64, SMALL);
        CHECK.argument("spread(0)", () -> s.spread(0, 1));
        CHECK.argument("spread(4097)", () -> s.spread(4097, 1));
        s.key(0, 2);
        s.amount(0, 9);
        CHECK.due("spread", s.spread(50, 77), 50);
        CHECK.due("it leaves the fact in the making", s.amount(0, 9), 9);
        CHECK.due("spread more", s.spread(4096, -3), 4146);
        s.drop();
        s.spread(50, 77);
        s.load();
        int[] a = {-5, 2, 7};
        int[] b = {1, 3};
        long[] sums = new long[6];
        long[] others = new long[6];
        long h = 77;
        for (int i = 0; i < 50; i++) {
            h = h * 6364136223846793005L + 1442695040888963407L;
            int row = (int) ((h >>> 33) % 3) * 2;
            h = h * 6364136223846793005L + 1442695040888963407L;
            row += (int) ((h >>> 33) % 2);
            h = h * 6364136223846793005L + 1442695040888963407L;
            sums[row] += h;
            h = h * 6364136223846793005L + 1442695040888963407L;
            others[row] += h >> 8;
        }
        StringBuilder due = new StringBuilder();
        for (int i = 0; i < 6; i++) {
            due.append(i == 0 ? "" : " / ").append(a[i / 2]).append(' ').append(b[i % 2]).append(' ').append(sums[i])
                .append(' ').append(others[i]);
        }
        CHECK.answers(s, "select a.x, b.y, sum(m), sum(k) group by a.x, b.y;", 4, due.toString());
        s.crash(0);
        CHECK.state("spread when DOWN", () -> s.spread(1, 1));
        CHECK.argument("spread(0) when DOWN", () -> s.spread(0, 1));
    }

    private static void dropping() {
        CubeStore s = Check.opened(64, SMALL);
        CHECK.due("drop of nothing", s.drop(), 0);
        s.stage(5);
        CHECK.due("drop of five", s.drop(), 5);
        CHECK.due("they are gone", s.count(5), 0);
        CHECK.state("nothing to load", () -> s.load());
        s.stage(3);
        s.recover();
        CHECK.due("recovery drops them, too", s.drop(), 0);
        s.crash(0);
        CHECK.state("drop when DOWN", () -> s.drop());
    }

    /** 20000 facts are staged in a life: those dropped and lost count, those refused don't. */
    private static void limits() {
        CubeStore s = Check.opened(64, SMALL);
        for (int i = 0; i < 2; i++) {
            s.spread(4096, i);
            s.spread(4096, i);
            s.drop();
        }
        s.spread(3000, 1);
        s.crash(0);
        s.recover();
        CHECK.state("one too many", () -> s.stage(617));
        CHECK.state("one too many by spread", () -> s.spread(617, 1));
        CHECK.due("the last of them", s.stage(616), 616);
        CHECK.state("no more in this life", () -> s.stage(1));
        s.recover();
        CHECK.state("nor after recovery", () -> s.spread(1, 1));
        CHECK.argument("the argument comes first", () -> s.spread(0, 1));
    }

    private static void counting() {
        CubeStore s = Check.opened(64, SMALL);
        CHECK.argument("count(-1)", () -> s.count(-1));
        CHECK.argument("count(7)", () -> s.count(7));
        s.spread(20, 1);
        s.load();
        s.spread(30, 1);
        s.load();
        s.choose(2);
        s.stage(7);
        Check.tell(s, "select");
        int[] counts = {2, 50, 2, 4, 58, 7, 6};
        for (int what = 0; what < counts.length; what++) {
            CHECK.due("count(" + what + ")", s.count(what), counts[what]);
        }
        CHECK.due("writes", s.writes(), 8);
        s.settle();
        int[] settled = {2, 50, 2, 2, 60, 7, 6};
        for (int what = 0; what < settled.length; what++) {
            CHECK.due("settled count(" + what + ")", s.count(what), settled[what]);
        }
        s.crash(0);
        CHECK.argument("count(7) when DOWN", () -> s.count(7));
        CHECK.state("count(0) when DOWN", () -> s.count(0));
        CHECK.due("state() when DOWN", s.state(), 2);
        CHECK.due("writes() when DOWN", s.writes(), 10);
    }
}
