/** Each sentence on the catalog, the disk's least and greatest size and opening that names a bound. */
public final class CatalogBoundsTest {
    private static final Check CHECK = new Check("CatalogBoundsTest");

    public static void main(String[] args) {
        blocksOfTheDisk();
        greatestCatalog();
        leastCatalog();
        thousandMembers();
        membersInAnyOrder();
        valuesAtLevels();
        whatOpeningNeeds();
        weightsOfCatalogs();
        catalogThatIsTooLong();
        CHECK.end();
    }

    /** "A disk of so many blocks (below 16 counts as 16, above 512 as 512), a NEW store without a catalog, nothing
     * written." */
    private static void blocksOfTheDisk() {
        int[][] sizes = {{15, 16}, {16, 16}, {17, 17}, {0, 16}, {-1, 16}, {1, 16}, {Integer.MIN_VALUE, 16}, {511, 511}, {512, 512},
            {513, 512}, {Integer.MAX_VALUE, 512}};
        for (int[] size : sizes) {
            CubeStore s = new CubeStore(size[0]);
            CHECK.due("blocks of " + size[0], s.count(4), size[1] - 2);
            CHECK.due("state", s.state(), 0);
            CHECK.due("writes", s.writes(), 0);
            CHECK.due("extents", s.count(3), 0);
            CHECK.due("recover", s.recover(), -1);
            CHECK.due("blocks after recovery", s.count(4), size[1] - 2);
            fillLast(size[0], size[1]);
        }
    }

    /** The last block of the disk can be used, and none behind it: loads of one block each until it is full. */
    private static void fillLast(int asked, int blocks) {
        CubeStore s = Check.opened(asked, "dimension a(x);measure m;member a(1);");
        int most = Math.min(blocks - 3, 199);
        for (int i = 1; i <= most; i++) {
            s.stage(1);
            CHECK.due("load " + i + " of " + blocks, s.load(), i);
        }
        s.stage(1);
        CHECK.due("one load more on " + blocks, s.load(), -2);
        CHECK.due("free blocks", s.count(4), blocks - 3 - most);
        CHECK.due("writes", s.writes(), 2 + 2 * most);
        CHECK.due("audit", s.audit(), 0);
    }

    /** "at most 8", "at most 4", "at most 8": all of them can be used at their bounds. */
    private static void greatestCatalog() {
        CubeStore s = new CubeStore(64);
        for (int d = 0; d < 8; d++) {
            CHECK.fine(s, "dimension d" + d + "(p,q,r,s);measure m" + d + ";", 2);
            CHECK.fine(s, "member d" + d + "(1" + d + ",2,3,4),(2" + d + ",7,8,9);", 1);
        }
        CHECK.due("open", s.open(), 2);
        for (int d = 0; d < 8; d++) {
            CHECK.due("key of " + d, s.key(d, 20 + d), true);
            CHECK.due("amount of " + d, s.amount(d, 1000 + d), 0);
        }
        CHECK.argument("no ninth dimension", () -> s.key(8, 1));
        CHECK.argument("no ninth measure", () -> s.amount(8, 1));
        s.stage(2);
        s.key(7, 17);
        s.amount(7, -5);
        s.stage(1);
        CHECK.due("load", s.load(), 1);
        CHECK.answers(s, "select d7.p, d7.q, d7.r, d7.s, sum(m0), sum(m7), min(m7), max(m7), count(*) group by d7.p, d7.q, d7.r, d7.s;",
            9, "17 2 3 4 1000 -5 -5 -5 1 / 27 7 8 9 2000 2014 1007 1007 2");
        CHECK.state("390625 views are too many to choose from", () -> s.choose(1));
        CHECK.due("settle", s.settle(), 2);
        CHECK.due("recover", s.recover(), 1);
        CHECK.answers(s, "select d0.s, d7.s, sum(m7) group by d0.s, d7.s;", 3, "9 4 -5 / 9 9 2014");
    }

    /** One dimension with one level and one member, and one measure: "A list has one thing at least." */
    private static void leastCatalog() {
        CubeStore s = new CubeStore(16);
        CHECK.fault(s, "dimension a();", 0, 4, 12);
        CHECK.fine(s, "dimension a(x);", 1);
        CHECK.fault(s, "member a;", 0, 4, 8);
        CHECK.fault(s, "member a();", 0, 4, 9);
        CHECK.fine(s, "member a(0);measure m;", 2);
        CHECK.due("open", s.open(), 2);
        CHECK.argument("no second dimension", () -> s.key(1, 0));
        CHECK.argument("no second measure", () -> s.amount(1, 0));
        s.stage(1);
        s.load();
        CHECK.due("nothing is smaller than one fact", s.choose(16), 0);
        s.stage(1);
        s.load();
        CHECK.due("of two views one is enough", s.choose(16), 1);
        CHECK.due("the lesser number", s.view(0, 0), 0);
    }

    /** "A dimension has MEMBERS, at most 1000". */
    private static void thousandMembers() {
        for (int members = 999; members <= 1001; members++) {
            String text = "dimension a(x,y);measure m;dimension b(x);member b(1);member a" + Check.repeat("(#,-#)", members, ",") + ";";
            CubeStore s = new CubeStore(64);
            if (members > 1000) {
                CHECK.fault(s, text, 4, 7, text.length() - "(1000,-1000);".length());
                CHECK.state("none of them came", () -> s.open());
                continue;
            }
            CHECK.fine(s, text, 5);
            CHECK.due("open", s.open(), 2 + (8 + 4 + 1 + 2 * (2 + 4 * members) + 4 + 1 + 2 + 4 + 2 - 1) / 4096);
            CHECK.due("the first", s.key(0, 0), true);
            CHECK.due("the last", s.key(0, members - 1), true);
            CHECK.due("none behind it", s.key(0, members), false);
            CHECK.due("none before the first", s.key(0, -1), false);
            s.stage(1);
            s.load();
            CHECK.answers(s, "select a.x, a.y, count(*) group by a.x, a.y;", 3, (members - 1) + " " + (1 - members) + " 1");
            s.spread(4096, 1);
            s.spread(4096, 2);
            s.load();
            s.choose(3);
            CHECK.due("audit", s.audit(), 0);
            s.recover();
            CHECK.due("the last after recovery", s.key(0, members - 1), true);
            CHECK.due("the first member is in the making again", s.stage(1), 1);
        }
    }

    /** "the first member of each dimension by value at level 0", in whatever order they were told. */
    private static void membersInAnyOrder() {
        String[] orders = {"(-2147483648),(-1),(0),(2147483647)", "(2147483647),(0),(-1),(-2147483648)", "(0),(2147483647),(-2147483648),(-1)"};
        for (String order : orders) {
            CubeStore s = Check.opened(16, "dimension a(x);measure m;member a" + order + ";");
            s.stage(1);
            s.load();
            CHECK.answers(s, "select a.x, count(*) group by a.x;", 2, "-2147483648 1");
            s.recover();
            s.stage(1);
            for (int value : new int[] {-1, 0, Integer.MAX_VALUE}) {
                CHECK.due("key " + value, s.key(0, value), true);
                s.stage(1);
            }
            s.load();
            CHECK.answers(s, "select a.x, count(*) group by a.x;", 2, "-2147483648 2 / -1 1 / 0 1 / 2147483647 1");
        }
        CubeStore s = new CubeStore(16);
        Check.run(s, "dimension a(x);measure m;member a(5),(3);");
        Check.run(s, "member a(4);");
        Check.run(s, "member a(1),(9);");
        s.open();
        s.stage(1);
        s.load();
        CHECK.answers(s, "select a.x group by a.x;", 1, "1");
    }

    /** "each has a value (an int) at each level, at level 0 one that no other has; members with the same value at a level
     * have the same ones at all higher levels." */
    private static void valuesAtLevels() {
        CubeStore s = Check.opened(32, "dimension a(x,y,z,w);measure m;member a(1,-2147483648,2147483647,0),(2,-2147483648,2147483647,0),"
            + "(3,5,2147483647,0),(4,6,7,0),(-9,1,1,-1);");
        for (int value : new int[] {1, 2, 3, 4, -9}) {
            s.key(0, value);
            s.amount(0, value);
            s.stage(1);
        }
        s.load();
        CHECK.answers(s, "select a.w, a.z, a.y, a.x, sum(m) group by rollup(a.w, a.z, a.y, a.x);", 5,
            "-1 1 1 -9 -9 / -1 1 1 - -9 / -1 1 - - -9 / -1 - - - -9 / 0 7 6 4 4 / 0 7 6 - 4 / 0 7 - - 4"
            + " / 0 2147483647 -2147483648 1 1 / 0 2147483647 -2147483648 2 2 / 0 2147483647 -2147483648 - 3"
            + " / 0 2147483647 5 3 3 / 0 2147483647 5 - 3 / 0 2147483647 - - 6 / 0 - - - 10 / - - - - 1");
    }

    /** "Illegal state: also if the store is not NEW, has no dimension, one without members, or no measure." */
    private static void whatOpeningNeeds() {
        String a = "dimension a(x);";
        String b = "dimension b(y);";
        String[] lacking = {"", a, "measure m;", a + "member a(1);", a + "measure m;", a + b + "measure m;",
            a + b + "measure m;member a(1);", a + b + "measure m;member b(1);", a + b + "member a(1);member b(1);"};
        for (String told : lacking) {
            CubeStore s = new CubeStore(16);
            CHECK.fine(s, told, told.length() - told.replace(";", "").length());
            CHECK.state("open with <" + told + ">", () -> s.open());
            CHECK.due("NEW", s.state(), 0);
            CHECK.due("nothing is written", s.writes(), 0);
            CHECK.due("no extent", s.count(3), 0);
            for (String rest : new String[] {a, b, "measure m;", "member a(1);", "member b(1);"}) {
                if (!told.contains(rest)) {
                    CHECK.fine(s, rest, 1);
                }
            }
            CHECK.due("open when nothing lacks", s.open(), 2);
            CHECK.state("open when OPEN", () -> s.open());
            CHECK.due("writes", s.writes(), 2);
        }
    }

    /** "The catalog's extent weighs 8, for each dimension 4 + the bytes of its name + for each level (1 + the bytes of its
     * name + 4 for each member), and for each measure 1 + the bytes of its name." */
    private static void weightsOfCatalogs() {
        String forty = "abcdefghijklmnopqrstuvwxyzabcdefghijklmn";
        // 8 + 4 + 2 + 2 * (1 + 1) + 8 * members + 1 + name: 507 members and a name of 21, of 4096 and of 4097 bytes.
        int members = 507;
        for (int name = 20; name <= 22; name++) {
            int weight = 8 + 4 + 2 + 2 * 2 + 8 * members + 1 + name;
            CubeStore s = new CubeStore(16);
            Check.run(s, "dimension dd(x,y);measure " + forty.substring(0, name) + ";member dd" + Check.repeat("(#,1)", members, ",") + ";");
            CHECK.due("a catalog of " + weight, s.open(), weight <= 4096 ? 2 : 3);
        }
        CHECK.due("the middle one is of 4096", 8 + 4 + 2 + 2 * 2 + 8 * members + 1 + 21, 4096);
        namesInDimensionsAndLevels(forty);
        // Two blocks and three: 8 + 5 + 4 * 2 + 16 * 509 + 1 + name is 8166 + name.
        for (int name = 25; name <= 27; name++) {
            CubeStore s = new CubeStore(16);
            Check.run(s, "dimension d(x,y,z,w);measure " + forty.substring(0, name) + ";member d" + Check.repeat("(#,1,1,1)", 509, ",") + ";");
            CHECK.due("a catalog of " + (8166 + name), s.open(), name <= 26 ? 3 : 4);
            CHECK.due("free blocks", s.count(4), name <= 26 ? 12 : 11);
            CHECK.due("writes", s.writes(), name <= 26 ? 3 : 4);
        }
    }

    /** The same bytes in the name of the dimension or of a level instead of the measure. */
    private static void namesInDimensionsAndLevels(String forty) {
        for (int more = 0; more <= 1; more++) {
            String name = forty.substring(0, 21 + more);
            String dim = forty.substring(0, 22 + more);
            CubeStore s = new CubeStore(16);
            Check.run(s, "dimension " + dim + "(x,y);measure m;member " + dim + Check.repeat("(#,1)", 507, ",") + ";");
            CHECK.due("bytes of the dimension's name", s.open(), 2 + more);
            CubeStore t = new CubeStore(16);
            Check.run(t, "dimension dd(x," + name + ");measure m;member dd" + Check.repeat("(#,1)", 507, ",") + ";");
            CHECK.due("bytes of a level's name", t.open(), 2 + more);
        }
        // Two dimensions: 8 + 2 * (4 + 1 + 2) + 4 * (500 + 510) + 2 * 1 + two names is 4064 + names.
        for (int more = 0; more <= 1; more++) {
            CubeStore s = new CubeStore(16);
            Check.run(s, "dimension a(x);dimension b(x);measure " + forty.substring(0, 16) + ";measure " + forty.substring(1, 17 + more)
                + ";member a" + Check.repeat("(#)", 500, ",") + ";member b" + Check.repeat("(#)", 510, ",") + ";");
            CHECK.due("two dimensions and measures", s.open(), 2 + more);
        }
    }

    /** "FULL": 14 blocks are all that a least disk has for a catalog; the store is NEW still and can be told less. */
    private static void catalogThatIsTooLong() {
        // 8 + 4 * (5 + 8) + 16 * members + 1 + name: 3579 members and a name of 19 weigh 57344, which are 14 blocks.
        String forty = "abcdefghijklmnopqrstuvwxyzabcdefghijklmn";
        for (int name = 18; name <= 20; name++) {
            CubeStore s = new CubeStore(16);
            for (int d = 0; d < 4; d++) {
                String dimension = "pqrs".substring(d, d + 1);
                Check.run(s, "dimension " + dimension + "(a,b,c,e);member " + dimension + Check.repeat("(#,1,1,1)", d < 3 ? 1000 : 579, ",") + ";");
            }
            Check.run(s, "measure " + forty.substring(0, name) + ";");
            if (name <= 19) {
                CHECK.due("open of " + (57325 + name), s.open(), 15);
                CHECK.due("free blocks", s.count(4), 0);
                s.stage(1);
                CHECK.due("there is no block for a load", s.load(), -2);
                CHECK.due("none for settling", s.settle(), -2);
                CHECK.due("nothing more is written", s.writes(), 15);
                CHECK.due("recover", s.recover(), 0);
                CHECK.due("the last member", s.key(3, 578), true);
            } else {
                CHECK.due("open of " + (57325 + name), s.open(), -2);
                CHECK.due("NEW", s.state(), 0);
                CHECK.due("nothing is written", s.writes(), 0);
                CHECK.due("free blocks", s.count(4), 14);
                CHECK.due("again", s.open(), -2);
                CHECK.fault(s, "member p(0,1,1,1);", 0, 7, 8);
                CHECK.fault(s, "member s(578,1,1,1);", 0, 9, 8);
                s.recover();
                Check.run(s, "dimension a(x);measure m;member a(1);");
                CHECK.due("a lesser one", s.open(), 2);
            }
        }
    }
}
