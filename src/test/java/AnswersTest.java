/** Promises 21 to 24: rows, cell, isBlank, served; what questions answer and from which table. */
public final class AnswersTest {
    private static final Check CHECK = new Check("AnswersTest");

    public static void main(String[] args) {
        CubeStore s = shops();
        items(s);
        conditions(s);
        groups(s);
        keeping();
        noFacts();
        extremes();
        served();
        servedByLevels();
        partsAddUp();
        sameFromAllTables();
        CHECK.end();
    }

    /** Store, day, price, n of six facts in two loads. */
    private static CubeStore shops() {
        CubeStore s = Check.opened(64, Check.SHOPS);
        Check.stage(s, 4, 31, 250, 2, 1, 31, -50, 1, 1, 1, 10, 5);
        s.load();
        Check.stage(s, 2, 3, 7, 0, 5, 32, 8, -9, 4, 31, 1, 1);
        s.load();
        return s;
    }

    private static void items(CubeStore s) {
        CHECK.answers(s, "select count(*), sum(price), min(price), max(price), sum(n), min(n), max(n);", 7, "6 226 -50 250 0 -9 5");
        CHECK.due("rows", s.rows(), 1);
        CHECK.argument("row 1", () -> s.cell(1, 0));
        CHECK.argument("row -1", () -> s.cell(-1, 0));
        CHECK.argument("item 7", () -> s.cell(0, 7));
        CHECK.argument("item -1", () -> s.cell(0, -1));
        CHECK.argument("blank row 1", () -> s.isBlank(1, 0));
        CHECK.argument("blank row -1", () -> s.isBlank(-1, 0));
        CHECK.argument("blank item 7", () -> s.isBlank(0, 7));
        CHECK.argument("blank item -1", () -> s.isBlank(0, -1));
        CHECK.answers(s, "select shop.store, shop.store, count(*), shop.store group by shop.store;", 4,
            "1 1 2 1 / 2 2 1 2 / 4 4 2 4 / 5 5 1 5");
        CHECK.answers(s, "select sum(n), shop.land, grouping(shop.land), grouping(day.month) group by shop.land, rollup(day.month);",
            4, "5 100 0 0 / 1 100 0 0 / 6 100 0 1 / -6 200 0 0 / -6 200 0 1");
    }

    private static void where(CubeStore s, String condition, String stores) {
        CHECK.answers(s, "select shop.store where " + condition + " group by shop.store;", 1, stores);
    }

    private static void conditions(CubeStore s) {
        where(s, "shop.store = 2", "2");
        where(s, "shop.store <> 2", "1 / 4 / 5");
        where(s, "shop.store < 2", "1");
        where(s, "shop.store <= 2", "1 / 2");
        where(s, "shop.store > 4", "5");
        where(s, "shop.store >= 4", "4 / 5");
        where(s, "shop.store between 2 and 4", "2 / 4");
        where(s, "shop.store between 4 and 2", "");
        where(s, "shop.store in (5, 1, 1, 77)", "1 / 5");
        where(s, "shop.store not in (5, 1, 77)", "2 / 4");
        where(s, "shop.store < -2147483648", "");
        where(s, "shop.store <= -2147483648", "");
        where(s, "shop.store >= -2147483648", "1 / 2 / 4 / 5");
        where(s, "shop.store > 2147483647", "");
        where(s, "shop.store <= 2147483647", "1 / 2 / 4 / 5");
        where(s, "shop.store between -2147483648 and 2147483647", "1 / 2 / 4 / 5");
        where(s, "shop.city = 20 and day.day = 32", "5");
        where(s, "shop.city = 20 or day.day = 3", "2 / 4 / 5");
        where(s, "not shop.city = 20 and day.month = 2", "1");
        where(s, "not (shop.city = 20 and day.month = 2)", "1 / 2");
        where(s, "not not shop.city = 20", "4 / 5");
        where(s, "shop.store = 1 or shop.store = 2 and day.month = 2", "1");
        where(s, "(shop.store = 1 or shop.store = 2) and day.month = 2", "1");
        where(s, "(shop.store = 1 or shop.store = 2) and day.month = 1", "1 / 2");
        where(s, "day.month = 1 and shop.store = 1 or shop.store = 4", "1 / 4");
        where(s, "day.month = 1 and (shop.store = 1 or shop.store = 4)", "1");
        where(s, "not shop.store = 1 or shop.store = 1", "1 / 2 / 4 / 5");
        where(s, "not (not (shop.store = 1) and not (shop.store = 5))", "1 / 5");
        where(s, "shop.store between 1 and 2 and shop.store <> 1", "2");
        where(s, "((((shop.land = 200))))", "4 / 5");
        StringBuilder deep = new StringBuilder();
        for (int i = 0; i < 40; i++) {
            deep.append("not (");
        }
        where(s, deep + "shop.store = 4" + ")".repeat(40), "4");
        where(s, "not " + deep + "shop.store = 4" + ")".repeat(40), "1 / 2 / 5");
        StringBuilder right = new StringBuilder("shop.store = 1");
        for (int i = 0; i < 40; i++) {
            right.insert(0, i % 2 == 0 ? "shop.store = 2 or (" : "shop.store > 0 and (").append(')');
        }
        where(s, right.toString(), "1 / 2");
        where(s, "shop.store = 1" + " or shop.store = 2".repeat(59), "1 / 2");
    }

    private static void groups(CubeStore s) {
        CHECK.answers(s, "select shop.land, shop.city, count(*) group by rollup(shop.land, shop.city);", 3,
            "100 10 3 / 100 - 3 / 200 20 3 / 200 - 3 / - - 6");
        CHECK.answers(s, "select shop.land, day.month, count(*), grouping(shop.land), grouping(day.month) group by cube(shop.land, day.month);",
            5, "100 1 2 0 0 / 100 2 1 0 0 / 100 - 3 0 1 / 200 2 3 0 0 / 200 - 3 0 1 / - 1 2 1 0 / - 2 4 1 0 / - - 6 1 1");
        CHECK.answers(s, "select day.month, count(*) group by day.month, shop.land;", 2, "1 2 / 2 1 / 2 3");
        CHECK.answers(s, "select day.month, shop.land, count(*) group by rollup(day.month), shop.land;", 3,
            "1 100 2 / 2 100 1 / 2 200 3 / - 100 3 / - 200 3");
        CHECK.answers(s, "select count(*) where shop.store = 3 group by shop.land;", 1, "");
        CHECK.answers(s, "select count(*), max(n) where shop.store = 3;", 2, "0 -");
        CHECK.answers(s, "select shop.land, count(*), min(n), sum(n) where shop.store = 3 group by cube(shop.land);", 4, "- 0 - 0");
        CHECK.answers(s, "select count(*) where shop.store = 3 group by day.day, rollup(shop.land);", 1, "");
    }

    private static void keeping() {
        CubeStore s = shops();
        CHECK.due("no answer at first", s.rows(), -1);
        CHECK.state("served by nothing", () -> s.served());
        CHECK.argument("no cell", () -> s.cell(0, 0));
        CHECK.argument("no blank", () -> s.isBlank(0, 0));
        Check.run(s, "select count(*);");
        s.stage(2);
        s.load();
        CHECK.due("a load leaves it", s.cell(0, 0), 6);
        s.choose(3);
        CHECK.due("a choice leaves it", s.cell(0, 0), 6);
        CHECK.due("and where it came from", s.served(), -1);
        s.settle();
        CHECK.due("settling leaves it", s.cell(0, 0), 6);
        Check.tell(s, "select");
        CHECK.due("feeding leaves it", s.rows(), 1);
        Check.run(s, "");
        CHECK.due("a run without a question does not", s.rows(), -1);
        CHECK.state("served", () -> s.served());
        Check.run(s, "select count(*);");
        CHECK.due("a new one", s.cell(0, 0), 8);
        Check.run(s, "select shop.store;");
        CHECK.due("a question with a fault is none", s.rows(), -1);
        Check.run(s, "select count(*);select max(n), count(*);");
        CHECK.due("the last one", s.cell(0, 1), 8);
        s.recover();
        CHECK.due("recovery takes it", s.rows(), -1);
    }

    private static void noFacts() {
        CubeStore s = Check.opened(16, Check.SHOPS);
        CHECK.answers(s, "select count(*), sum(n), min(n), max(n);", 4, "0 0 - -");
        CHECK.due("0 for NONE", s.cell(0, 2), 0);
        CHECK.due("served", s.served(), -1);
        CHECK.answers(s, "select shop.store, count(*) group by shop.store;", 2, "");
        CHECK.due("no row", s.rows(), 0);
        CHECK.argument("no cell", () -> s.cell(0, 0));
        CHECK.answers(s, "select shop.store, grouping(shop.store) group by rollup(shop.store);", 2, "- 1");
        CHECK.due("0 for ALL", s.cell(0, 0), 0);
        s.settle();
        CHECK.answers(s, "select count(*), sum(n), min(n), max(n);", 4, "0 0 - -");
    }

    private static void extremes() {
        CubeStore s = Check.opened(16, "dimension a(x);measure m;member a(2147483647),(-2147483648),(0);");
        long[] amounts = {Long.MAX_VALUE, Long.MAX_VALUE, Long.MIN_VALUE, -1};
        int[] keys = {0, 0, Integer.MAX_VALUE, Integer.MIN_VALUE};
        for (int i = 0; i < 4; i++) {
            s.key(0, keys[i]);
            s.amount(0, amounts[i]);
            s.stage(1);
        }
        s.load();
        String due = "-2147483648 -1 -1 -1 / 0 -2 9223372036854775807 9223372036854775807"
            + " / 2147483647 -9223372036854775808 -9223372036854775808 -9223372036854775808"
            + " / - 9223372036854775805 -9223372036854775808 9223372036854775807";
        String question = "select a.x, sum(m), min(m), max(m) group by rollup(a.x);";
        CHECK.answers(s, question, 4, due);
        CHECK.due("choose", s.choose(2), 2);
        CHECK.answers(s, question, 4, due);
        CHECK.due("from a view", s.served() >= 0, true);
        s.settle();
        s.recover();
        CHECK.answers(s, question, 4, due);
    }

    private static void servedBy(CubeStore s, String question, int due) {
        CHECK.due("run of " + question, Check.run(s, question), 1);
        CHECK.due("served of " + question, s.served(), due);
    }

    /** Ten facts of one member: all three views have one row, so the one chosen earliest counts. */
    private static void served() {
        CubeStore s = Check.opened(64, "dimension a(x,y);measure m;member a(1,10),(2,10),(3,20);");
        s.stage(10);
        s.load();
        servedBy(s, "select count(*);", -1);
        s.choose(16);
        CHECK.due("views are x, y, none", s.view(0, 0) * 100 + s.view(1, 0) * 10 + s.view(2, 0), 12);
        servedBy(s, "select count(*);", 0);
        s.key(0, 3);
        s.stage(1);
        s.load();
        servedBy(s, "select count(*);", 0);
        s.key(0, 2);
        s.stage(1);
        s.key(0, 1);
        s.stage(1);
        s.load();
        // Rows in all parts: view 0 has 1 + 1 + 2, view 1 has 1 + 1 + 1, view 2 as many.
        servedBy(s, "select count(*);", 1);
        servedBy(s, "select a.y group by a.y;", 1);
        servedBy(s, "select count(*) where a.x > 1;", 0);
        servedBy(s, "select count(*) group by a.x, a.y;", 0);
        s.settle();
        // Settled: 3, 2 and 1.
        servedBy(s, "select count(*), sum(m), min(m), max(m);", 2);
        servedBy(s, "select count(*) where a.y > 1;", 1);
        servedBy(s, "select count(*) where a.y > 1 and not a.x <> 1;", 0);
        s.choose(1);
        servedBy(s, "select count(*) where a.y > 1;", 0);
        s.choose(0);
        servedBy(s, "select count(*) where a.y > 1;", -1);
        s.crash(0);
        CHECK.state("served when DOWN", () -> s.served());
        CHECK.state("rows when DOWN", () -> s.rows());
    }

    private static void servedByLevels() {
        CubeStore s = Check.opened(64, Check.SHOPS);
        s.spread(200, 3);
        s.load();
        int views = s.choose(12);
        String[] columns = {"shop.store", "shop.city", "shop.land", "day.day", "day.month"};
        int[] dimension = {0, 0, 0, 1, 1};
        int[] level = {0, 1, 2, 0, 1};
        int[] size = {5, 3, 2, 1};
        int[] daySize = {5, 2, 1};
        for (int c = 0; c < 5; c++) {
            for (int g = 0; g < 5; g++) {
                int[] need = {3, 2};
                need[dimension[c]] = Math.min(need[dimension[c]], level[c]);
                need[dimension[g]] = Math.min(need[dimension[g]], level[g]);
                int best = -1;
                int least = 200;
                for (int v = 0; v < views; v++) {
                    int rows = size[s.view(v, 0)] * daySize[s.view(v, 1)];
                    if (s.view(v, 0) <= need[0] && s.view(v, 1) <= need[1] && rows < least) {
                        least = rows;
                        best = v;
                    }
                }
                servedBy(s, "select count(*) where " + columns[c] + " > 0 group by " + columns[g] + ";", best);
            }
        }
    }

    /** Loads behind a choice have parts of their own of each view. */
    private static void partsAddUp() {
        CubeStore s = shops();
        s.choose(16);
        CHECK.due("views", s.count(2) > 1, true);
        for (int i = 0; i < 5; i++) {
            Check.stage(s, 3, 2, 1000, i, 1, 31, 100, -i);
            s.load();
        }
        CHECK.answers(s, "select shop.land, count(*), sum(price), min(n), max(n) group by rollup(shop.land);", 5,
            "100 13 5467 -4 5 / 200 3 259 -9 2 / - 16 5726 -9 5");
        CHECK.due("from a view", s.served() >= 0, true);
        CHECK.due("audit", s.audit(), 0);
    }

    private static void sameFromAllTables() {
        CubeStore s = Check.opened(512, Check.SHOPS);
        String[] questions = {"select count(*), sum(price), sum(n), min(price), max(n);",
            "select shop.city, day.month, sum(n), min(n), max(price) group by cube(shop.city, day.month);",
            "select shop.store, count(*), max(n) where day.day <> 2 or shop.land = 200 group by rollup(shop.store);"};
        int[] items = {5, 5, 3};
        for (int load = 0; load < 4; load++) {
            s.spread(1300, load);
            s.load();
            s.choose(0);
            for (int q = 0; q < 3; q++) {
                String fromFacts = Check.answer(s, questions[q], items[q]);
                CHECK.due("served from the facts", s.served(), -1);
                s.choose(6);
                CHECK.answers(s, questions[q], items[q], fromFacts);
                CHECK.due("served from a view", s.served() >= 0, true);
                s.settle();
                CHECK.answers(s, questions[q], items[q], fromFacts);
                s.choose(0);
            }
        }
    }
}
