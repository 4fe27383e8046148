/** Promises 12 to 14, 18 and 20: load, choose, settle, what they write and where, and the chosen views. */
public final class ChangesTest {
    private static final Check CHECK = new Check("ChangesTest");
    private static final String SMALL = "dimension a(x,y);measure m;member a(1,10),(2,10),(3,20);";

    public static void main(String[] args) {
        loading();
        loadingFull();
        foremostPlace();
        twoHundred();
        exactWeights();
        choosing();
        choosingByBenefit();
        choosingRefused();
        choosingFull();
        settling();
        settlingFull();
        hundredChanges();
        CHECK.end();
    }

    private static void loading() {
        CubeStore s = Check.opened(64, Check.SHOPS);
        CHECK.state("load of nothing", () -> s.load());
        s.stage(3);
        CHECK.due("first load", s.load(), 1);
        CHECK.due("the batch is empty", s.count(5), 0);
        CHECK.state("load again", () -> s.load());
        CHECK.due("writes", s.writes(), 4);
        s.spread(500, 7);
        CHECK.due("second load", s.load(), 2);
        CHECK.due("free blocks", s.count(4), 62 - 1 - 1 - 2);
        CHECK.due("facts", s.count(1), 503);
        CHECK.due("extents", s.count(3), 3);
        s.crash(0);
        CHECK.state("load when DOWN", () -> s.load());
    }

    private static void loadingFull() {
        CubeStore s = Check.opened(16, Check.SHOPS);
        s.spread(4000, 1);
        CHECK.due("load that is too long", s.load(), -2);
        CHECK.due("the batch stays", s.count(5), 4000);
        CHECK.due("nothing is written", s.writes(), 2);
        CHECK.due("no load is there", s.count(0), 0);
        CHECK.due("no extent either", s.count(3), 1);
        CHECK.due("full again", s.load(), -2);
        s.drop();
        s.stage(1);
        CHECK.due("a short one fits", s.load(), 1);
    }

    /** Blocks 2 to 15 of the least disk: catalog at 2, loads at 3, 4, 5, all of them settled at 6. */
    private static void foremostPlace() {
        CubeStore s = Check.opened(16, Check.SHOPS);
        for (int i = 0; i < 3; i++) {
            s.stage(1);
            s.load();
        }
        CHECK.due("settle", s.settle(), 2);
        CHECK.due("free: 3 to 5, 7 to 15", s.count(4), 12);
        s.spread(1000, 1);
        CHECK.due("four blocks go to 7 to 10", s.load(), 4);
        CHECK.due("left", s.count(4), 8);
        s.spread(700, 2);
        CHECK.due("three blocks go to 3 to 5", s.load(), 5);
        CHECK.due("left", s.count(4), 5);
        s.spread(1500, 3);
        CHECK.due("six blocks are too many", s.load(), -2);
        s.drop();
        s.spread(1250, 3);
        CHECK.due("five blocks fill it", s.load(), 6);
        CHECK.due("none left", s.count(4), 0);
        s.stage(1);
        CHECK.due("no block for a load", s.load(), -2);
        CHECK.due("no room for a choice", s.choose(1), -2);
        CHECK.due("no room for settling", s.settle(), -2);
        CHECK.due("a choice of none needs no room", s.choose(0), 0);
        CHECK.due("all is well", s.audit(), 0);
    }

    private static void twoHundred() {
        CubeStore s = Check.opened(512, SMALL);
        for (int i = 1; i <= 198; i++) {
            s.stage(4);
            CHECK.due("load", s.load(), i);
        }
        CHECK.due("extents", s.count(3), 199);
        CHECK.due("a choice may be the 200th", s.choose(1), 1);
        s.stage(1);
        CHECK.due("a load may not be the next", s.load(), -2);
        CHECK.due("its batch stays", s.count(5), 1);
        CHECK.due("a choice takes the place of the one before", s.choose(2), 2);
        CHECK.due("extents", s.count(3), 200);
        CHECK.due("no choice", s.choose(0), 0);
        CHECK.due("now there is one less", s.count(3), 199);
        CHECK.due("the load can be there", s.load(), 199);
        CHECK.due("but no choice", s.choose(1), -2);
        CHECK.due("a choice of none can", s.choose(0), 0);
        CHECK.due("settling can", s.settle(), 2);
        CHECK.due("extents", s.count(3), 2);
        CHECK.due("facts", s.count(1), 198 * 4 + 1);
    }

    /** Looks for loads that fill blocks to the last byte, and for loads that need just one byte more. */
    private static void exactWeights() {
        int[] found = new int[2];
        for (int measures = 1; measures <= 8; measures++) {
            String catalog = "dimension a(x);dimension b(x);" + Check.repeat("measure m#;", measures, "")
                + "member a(1),(2),(5);member b(7),(8);";
            Model model = new Model(512);
            for (int i = 0; i < catalog.length(); i += 20) {
                model.feed(fives(catalog, i / 20));
            }
            model.run();
            model.open();
            for (int n = 20; n <= 2000; n++) {
                model.batch.clear();
                model.staged = 0;
                model.spread(n, measures);
                long weight = 8 + Model.partWeight(model.factRows(model.batch));
                if (weight % 4096 <= 1) {
                    found[(int) (weight % 4096)]++;
                    exactWeight(catalog, n, measures, weight);
                }
            }
        }
        CHECK.due("loads without a byte over", found[0] > 2, true);
        CHECK.due("loads with one byte over", found[1] > 2, true);
    }

    private static void exactWeight(String catalog, int n, long seed, long weight) {
        CubeStore s = Check.opened(512, catalog);
        s.spread(n, seed);
        s.load();
        CHECK.due("blocks of a load of " + weight + " bytes", 509 - s.count(4), (weight + 4095) / 4096);
        CHECK.due("and of its settling", s.settle() - 1, (weight + 4095) / 4096);
        CHECK.due("read back", s.audit(), 0);
    }

    private static int[] fives(String text, int i) {
        int[] five = new int[5];
        for (int b = 0; b < 20; b++) {
            int at = i * 20 + b;
            five[b / 4] = five[b / 4] << 8 | (at < text.length() ? text.charAt(at) : ' ');
        }
        return five;
    }

    private static CubeStore withFacts(int facts) {
        CubeStore s = Check.opened(64, SMALL);
        s.stage(facts);
        s.load();
        return s;
    }

    /** Views of SMALL: 0 has a at x (3 values), 1 at y (2 values), 2 not at all. */
    private static void choosing() {
        CubeStore s = withFacts(10);
        CHECK.argument("no view 0", () -> s.view(0, 0));
        CHECK.due("choose(16)", s.choose(16), 3);
        CHECK.due("21 is the greatest benefit", s.view(0, 0), 0);
        CHECK.due("of two with 2 the lesser number", s.view(1, 0), 1);
        CHECK.due("then the last", s.view(2, 0), 2);
        CHECK.argument("no view 3", () -> s.view(3, 0));
        CHECK.argument("no view -1", () -> s.view(-1, 0));
        CHECK.argument("no dimension 1", () -> s.view(0, 1));
        CHECK.argument("no dimension -1", () -> s.view(0, -1));
        CHECK.due("chosen", s.count(2), 3);
        CHECK.due("extents", s.count(3), 3);
        CHECK.due("writes", s.writes(), 6);
        CHECK.due("choose(1)", s.choose(1), 1);
        CHECK.due("instead of those", s.count(2), 1);
        CHECK.due("its extent instead of the other", s.count(3), 3);
        CHECK.due("free blocks", s.count(4), 59);
        CHECK.argument("no view 1 any more", () -> s.view(1, 0));
        int before = s.writes();
        CHECK.due("choose(0)", s.choose(0), 0);
        CHECK.due("a manifest alone", s.writes() - before, 1);
        CHECK.due("no choice's extent", s.count(3), 2);
        s.choose(3);
        s.crash(0);
        CHECK.argument("no view when DOWN", () -> s.view(0, 0));
        s.recover();
        CHECK.due("views come back", s.view(1, 0), 1);
    }

    private static void choosingByBenefit() {
        // Of four facts: benefits 3 4 3, so view 1; then costs 4 2 2, benefits 1 0 1, so view 0; then view 2.
        int[][] due = {{}, {2}, {1, 2}, {1, 0, 2}};
        for (int facts = 1; facts <= 4; facts++) {
            CubeStore s = withFacts(facts);
            int[] views = due[facts - 1];
            CHECK.due("choices for " + facts + " facts", s.choose(16), views.length);
            for (int i = 0; i < views.length; i++) {
                CHECK.due("view " + i + " for " + facts + " facts", s.view(i, 0), views[i]);
            }
        }
        CubeStore none = Check.opened(64, SMALL);
        CHECK.due("none without facts", none.choose(5), 0);
        CHECK.due("but a manifest", none.writes(), 3);
        CubeStore two = Check.opened(64, "dimension a(x,y);dimension b(z);measure m;"
            + "member a(1,1),(2,1),(3,1),(4,1);member b(1),(2);");
        two.stage(7);
        two.load();
        // Estimates of views 0 to 5: 7 (not 8) 4 2 1 2 1. Costs are 7, benefits 0 9 20 12 10 6: view 2, which is
        // y and z. Then costs are 7 7 2 2 2 2, benefits 0 3 0 2 0 1: view 1, which is x without z.
        CHECK.due("two dimensions", two.choose(2), 2);
        CHECK.due("first at a", two.view(0, 0), 1);
        CHECK.due("first at b", two.view(0, 1), 0);
        CHECK.due("second at a", two.view(1, 0), 0);
        CHECK.due("second at b", two.view(1, 1), 1);
    }

    private static void choosingRefused() {
        CubeStore s = withFacts(10);
        CHECK.argument("choose(-1)", () -> s.choose(-1));
        CHECK.argument("choose(17)", () -> s.choose(17));
        s.crash(0);
        CHECK.argument("choose(17) when DOWN", () -> s.choose(17));
        CHECK.state("choose(1) when DOWN", () -> s.choose(1));
        String nine = "dimension a(k,l,m);dimension b(k,l,m);dimension c(k,l,m);dimension d(k,l,m);";
        CubeStore most = Check.opened(64, nine + "dimension e(k);measure s;" + tellOnes("abcd") + "member e(1);");
        CHECK.due("512 views are fine", most.choose(3), 0);
        CubeStore more = Check.opened(64, nine + "dimension e(k,l);measure s;" + tellOnes("abcd") + "member e(1,1);");
        more.stage(9);
        CHECK.due("more views are no matter for loads", more.load(), 1);
        CHECK.state("768 views are too many", () -> more.choose(0));
        CHECK.argument("the argument comes first", () -> more.choose(-1));
        CHECK.due("nor for settling", more.settle(), 2);
        CHECK.answers(more, "select count(*), e.l group by e.l;", 2, "9 1");
    }

    private static String tellOnes(String dimensions) {
        return "member " + String.join("(1,1,1);member ", dimensions.split("")) + "(1,1,1);";
    }

    private static void choosingFull() {
        CubeStore s = Check.opened(16, Check.SHOPS);
        s.spread(900, 1);
        s.load();
        CHECK.due("choose", s.choose(2), 2);
        int free = s.count(4);
        s.spread(300 * free / 2, 5);
        s.load();
        int extents = s.count(3);
        for (int i = 0; i < 12 && s.count(4) > 0; i++) {
            s.stage(1);
            s.load();
            extents++;
        }
        CHECK.due("no block is free", s.count(4), 0);
        int writes = s.writes();
        CHECK.due("choose finds no room though the old choice would go", s.choose(1), -2);
        CHECK.due("nothing is written", s.writes(), writes);
        CHECK.due("the old ones stay", s.count(2), 2);
        CHECK.due("their extent, too", s.count(3), extents);
        CHECK.due("a choice of none frees it", s.choose(0), 0);
        CHECK.due("then there is room", s.choose(1), 1);
    }

    private static void settling() {
        CubeStore s = Check.opened(64, SMALL);
        CHECK.due("settling no facts", s.settle(), 2);
        CHECK.due("extents", s.count(3), 2);
        CHECK.due("again", s.settle(), 2);
        CHECK.due("extents", s.count(3), 2);
        CHECK.due("writes", s.writes(), 6);
        for (int i = 0; i < 5; i++) {
            s.stage(10);
            s.load();
        }
        s.choose(3);
        s.stage(1);
        s.load();
        CHECK.due("extents", s.count(3), 9);
        CHECK.due("settle", s.settle(), 2);
        CHECK.due("extents", s.count(3), 2);
        CHECK.due("free", s.count(4), 60);
        CHECK.due("loads stay", s.count(0), 6);
        CHECK.due("facts stay", s.count(1), 51);
        CHECK.due("views stay", s.count(2), 3);
        CHECK.answers(s, "select a.x, count(*) group by rollup(a.x);", 2, "1 51 / - 51");
        CHECK.due("from a view", s.served(), 0);
        CHECK.due("loads go on", s.recover(), 6);
        s.stage(1);
        CHECK.due("load", s.load(), 7);
        CHECK.answers(s, "select a.x, count(*) group by rollup(a.x);", 2, "1 52 / - 52");
        s.crash(0);
        CHECK.state("settle when DOWN", () -> s.settle());
    }

    private static void settlingFull() {
        CubeStore s = Check.opened(16, Check.SHOPS);
        for (int i = 0; i < 2; i++) {
            s.spread(1200, i);
            s.load();
        }
        int writes = s.writes();
        CHECK.due("settling needs room of its own", s.settle(), -2);
        CHECK.due("nothing is written", s.writes(), writes);
        CHECK.due("nothing is changed", s.count(3), 3);
        CHECK.due("facts", s.count(1), 2400);
    }

    private static void hundredChanges() {
        CubeStore s = withFacts(10);
        for (int i = 0; i < 49; i++) {
            s.choose(i % 4);
            s.settle();
        }
        s.choose(3);
        s.crash(1);
        CHECK.due("the hundredth is cut", s.settle(), -3);
        s.recover();
        CHECK.state("no more settling in this life", () -> s.settle());
        CHECK.state("no more choosing", () -> s.choose(0));
        CHECK.argument("the argument comes first", () -> s.choose(17));
        s.stage(1);
        CHECK.due("loads are not counted", s.load(), 2);
        CHECK.due("views are there", s.count(2), 3);

        CubeStore full = Check.opened(16, Check.SHOPS);
        for (int i = 0; i < 2; i++) {
            full.spread(1200, i);
            full.load();
        }
        for (int i = 0; i < 120; i++) {
            CHECK.due("full ones are not counted", full.settle(), -2);
        }
        for (int i = 0; i < 100; i++) {
            CHECK.due("these are", full.choose(0), 0);
        }
        CHECK.state("no more", () -> full.choose(0));
    }
}
