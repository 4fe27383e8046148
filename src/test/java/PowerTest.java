/** Promises 15 to 18: crash, recover, state and writes, and that each change is there wholly or not at all. */
public final class PowerTest {
    private static final Check CHECK = new Check("PowerTest");

    public static void main(String[] args) {
        bounds();
        atOnce();
        downRefusesAll();
        fuseGoesOn();
        everyBlockOfOpen();
        everyBlockOfChanges();
        recoveringAlive();
        recoveringNew();
        overwrittenBlocks();
        CHECK.end();
    }

    private static void bounds() {
        CubeStore s = new CubeStore(16);
        CHECK.argument("crash(-2)", () -> s.crash(-2));
        CHECK.argument("crash(1001)", () -> s.crash(1001));
        s.crash(1000);
        s.crash(-1);
        CHECK.due("still NEW", s.state(), 0);
        s.crash(0);
        CHECK.due("DOWN", s.state(), 2);
        CHECK.argument("crash(1001) when DOWN", () -> s.crash(1001));
        CHECK.state("crash(0) when DOWN", () -> s.crash(0));
        CHECK.state("crash(-1) when DOWN", () -> s.crash(-1));
    }

    private static void atOnce() {
        CubeStore s = Check.opened(32, Check.SHOPS);
        s.spread(100, 1);
        s.load();
        s.spread(100, 2);
        Check.run(s, "select count(*);");
        Check.tell(s, "select");
        s.crash(0);
        CHECK.due("DOWN", s.state(), 2);
        CHECK.argument("no answer", () -> s.cell(0, 0));
        CHECK.due("recover", s.recover(), 1);
        CHECK.due("OPEN", s.state(), 1);
        CHECK.due("no batch", s.count(5), 0);
        CHECK.due("no text", s.count(6), 0);
        CHECK.due("no answer", s.rows(), -1);
        CHECK.due("the facts are there", s.count(1), 100);
    }

    private static void downRefusesAll() {
        CubeStore s = Check.opened(32, Check.SHOPS);
        s.spread(10, 1);
        s.load();
        s.choose(2);
        Check.run(s, "select count(*);");
        int writes = s.writes();
        s.crash(0);
        CHECK.state("feed", () -> s.feed(1, 2, 3, 4, 5));
        CHECK.state("trim", () -> s.trim(0));
        CHECK.state("run", () -> s.run());
        CHECK.state("fault", () -> s.fault(0));
        CHECK.state("open", () -> s.open());
        CHECK.argument("key", () -> s.key(0, 1));
        CHECK.argument("amount", () -> s.amount(0, 1));
        CHECK.state("stage", () -> s.stage(1));
        CHECK.state("spread", () -> s.spread(1, 1));
        CHECK.state("drop", () -> s.drop());
        CHECK.state("load", () -> s.load());
        CHECK.state("choose", () -> s.choose(1));
        CHECK.state("settle", () -> s.settle());
        CHECK.state("crash", () -> s.crash(5));
        CHECK.state("count", () -> s.count(0));
        CHECK.argument("view", () -> s.view(0, 0));
        CHECK.state("rows", () -> s.rows());
        CHECK.argument("cell", () -> s.cell(0, 0));
        CHECK.argument("isBlank", () -> s.isBlank(0, 0));
        CHECK.state("served", () -> s.served());
        CHECK.state("audit", () -> s.audit());
        CHECK.due("state", s.state(), 2);
        CHECK.due("writes", s.writes(), writes);
        CHECK.due("recover", s.recover(), 1);
        CHECK.due("views are there", s.count(2), 2);
        CHECK.due("recover again", s.recover(), 1);
    }

    private static void fuseGoesOn() {
        CubeStore s = Check.opened(32, Check.SHOPS);
        s.crash(5);
        s.stage(1);
        CHECK.due("two blocks", s.load(), 1);
        s.stage(1);
        CHECK.due("four blocks", s.load(), 2);
        s.stage(1);
        CHECK.due("the fifth is cut", s.load(), -3);
        CHECK.due("writes", s.writes(), 7);
        CHECK.due("recover", s.recover(), 2);
        s.stage(1);
        CHECK.due("what crash() said is gone", s.load(), 3);
        s.crash(3);
        s.recover();
        s.stage(1);
        CHECK.due("also without a cut", s.load(), 4);
        s.stage(1);
        CHECK.due("also in the next change", s.load(), 5);
        s.crash(1);
        s.crash(-1);
        s.stage(1);
        CHECK.due("it will not fail", s.load(), 6);
        s.crash(1);
        s.crash(4);
        s.stage(1);
        CHECK.due("the last one counts", s.load(), 7);
        CHECK.due("a manifest alone is one block", s.choose(0), 0);
        CHECK.due("the fourth block is a manifest", s.choose(0), -3);
        CHECK.due("all loads are there", s.recover(), 7);
    }

    private static void everyBlockOfOpen() {
        for (int n = 1; n <= 3; n++) {
            CubeStore s = new CubeStore(16);
            Check.run(s, Check.SHOPS);
            s.crash(n);
            CHECK.due("open cut at " + n, s.open(), n <= 2 ? -3 : 2);
            CHECK.due("state", s.state(), n <= 2 ? 2 : 1);
            CHECK.due("writes", s.writes(), Math.min(n, 2));
            CHECK.due("recover", s.recover(), n == 1 ? -1 : 0);
            CHECK.due("state then", s.state(), n == 1 ? 0 : 1);
            CHECK.due("extents then", s.count(3), n == 1 ? 0 : 1);
            if (n == 1) {
                CHECK.state("no catalog", () -> s.open());
                Check.run(s, Check.SHOPS);
                CHECK.due("open anew", s.open(), 2);
            }
        }
    }

    /** Cuts each block of a load, a choice and a settling; only the last one is the manifest. */
    private static void everyBlockOfChanges() {
        for (int change = 0; change < 3; change++) {
            int whole = blocksOf(change);
            for (int n = 1; n <= whole + 1; n++) {
                CubeStore s = before();
                int writes = s.writes();
                s.crash(n);
                int answer = make(s, change);
                CHECK.due("cut at " + n + " of " + whole, answer == -3, n <= whole);
                CHECK.due("blocks written", s.writes() - writes, Math.min(n, whole));
                boolean there = n >= whole;
                CHECK.due("recover", s.recover(), there && change == 0 ? 3 : 2);
                CHECK.due("facts", s.count(1), there && change == 0 ? 3000 : 2200);
                CHECK.due("views", s.count(2), there && change == 1 ? 5 : 2);
                CHECK.due("extents", s.count(3), there ? new int[] {5, 4, 2}[change] : 4);
                CHECK.due("audit", s.audit(), 0);
                CHECK.answers(s, "select count(*);", 1, there && change == 0 ? "3000" : "2200");
                s.spread(50, 9);
                CHECK.due("it goes on", s.load(), there && change == 0 ? 4 : 3);
                CHECK.due("audit", s.audit(), 0);
            }
        }
    }

    private static CubeStore before() {
        CubeStore s = Check.opened(60, Check.SHOPS);
        s.spread(1500, 1);
        s.load();
        s.choose(2);
        s.spread(700, 2);
        s.load();
        s.spread(800, 3);
        return s;
    }

    private static int make(CubeStore s, int change) {
        return change == 0 ? s.load() : change == 1 ? s.choose(5) : s.settle();
    }

    private static int blocksOf(int change) {
        CubeStore s = before();
        int writes = s.writes();
        make(s, change);
        return s.writes() - writes;
    }

    private static void recoveringAlive() {
        CubeStore s = Check.opened(32, Check.SHOPS);
        s.key(0, 4);
        s.amount(0, 8);
        s.stage(4);
        Check.run(s, "select count(*);?");
        Check.tell(s, "select");
        CHECK.due("recover", s.recover(), 0);
        CHECK.due("no batch", s.count(5), 0);
        CHECK.due("no text", s.count(6), 0);
        CHECK.due("no fault", s.fault(0), 0);
        CHECK.due("no answer", s.rows(), -1);
        CHECK.due("amount as at first", s.amount(0, 3), 0);
        s.stage(1);
        s.load();
        CHECK.answers(s, "select shop.store, day.day, sum(price) group by shop.store, day.day;", 3, "1 1 3");
    }

    private static void recoveringNew() {
        CubeStore s = new CubeStore(16);
        Check.run(s, Check.SHOPS);
        CHECK.due("recover", s.recover(), -1);
        CHECK.argument("the catalog is gone", () -> s.key(0, 1));
        CHECK.state("open", () -> s.open());
        CHECK.fine(s, Check.SHOPS, 6);
        CHECK.due("open", s.open(), 2);
    }

    /** A settling that was cut left blocks behind; what is written there later must not be mixed up with them. */
    private static void overwrittenBlocks() {
        CubeStore s = Check.opened(40, Check.SHOPS);
        s.spread(1500, 1);
        s.load();
        s.choose(4);
        String question = "select shop.city, sum(price), min(n), max(n), count(*) where day.month = 1 group by rollup(shop.city);";
        String due = Check.answer(s, question, 5);
        for (int n = 1; n < 6; n++) {
            s.crash(n);
            CHECK.due("cut", s.settle(), -3);
            s.recover();
            CHECK.answers(s, question, 5, due);
            s.crash(1);
            CHECK.due("cut", s.choose(n), -3);
            s.recover();
            CHECK.answers(s, question, 5, due);
        }
        s.settle();
        CHECK.answers(s, question, 5, due);
        CHECK.due("audit", s.audit(), 0);
    }
}
