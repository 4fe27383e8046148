/** Questions at the bounds that the document names: what they answer there is what it says, and one more is a fault. */
public final class QuestionBoundsTest {
    private static final Check CHECK = new Check("QuestionBoundsTest");

    public static void main(String[] args) {
        twentyFourItems();
        sixtyComparisons();
        fortyNumbers();
        fortyBrackets();
        longConditions();
        deepestConditions();
        wholeSegments();
        eightGroupColumns();
        thirtyTwoSets();
        fourThousandRows();
        fourThousandRowsOfAll();
        emptySet();
        sumsThatWrap();
        leastAndGreatest();
        comparisonsAtTheEndsOfInts();
        orderOfRows();
        bindings();
        whichAnswerIsThere();
        CHECK.end();
    }

    private static CubeStore numbers(int members) {
        CubeStore s = Check.opened(64, "dimension a(x,y);measure m;measure k;member a" + Check.repeat("(#,-#)", members, ",") + ";");
        return s;
    }

    private static void stageEach(CubeStore s, int members) {
        for (int i = 0; i < members; i++) {
            s.key(0, i);
            s.amount(0, 100 + i);
            s.amount(1, -i);
            s.stage(1);
        }
        s.load();
    }

    /** "1 to 24 items." */
    private static void twentyFourItems() {
        CubeStore s = numbers(3);
        stageEach(s, 3);
        String[] kinds = {"sum(m)", "min(k)", "max(m)", "count(*)", "a.x", "grouping(a.x)", "a.y", "grouping(a.y)"};
        String[] due = {"303", "-2", "102", "3", "-", "1", "-", "1"};
        for (int items = 1; items <= 24; items++) {
            StringBuilder list = new StringBuilder();
            StringBuilder last = new StringBuilder();
            for (int i = 0; i < items; i++) {
                list.append(i == 0 ? "" : ",").append(kinds[(i + items) % 8]);
                last.append(i == 0 ? "" : " ").append(due[(i + items) % 8]);
            }
            String answer = Check.answer(s, "select " + list + " group by rollup(a.x,a.y);", items);
            CHECK.due("rows", s.rows(), 7);
            CHECK.due("last row of " + items + " items " + answer, answer.endsWith(" / " + last), true);
            int asked = items;
            CHECK.argument("no item more", () -> s.cell(6, asked));
            CHECK.argument("no item more that is blank", () -> s.isBlank(6, asked));
            CHECK.argument("no row more", () -> s.cell(7, asked - 1));
        }
        CHECK.fault(s, "select ;", 0, 4, 7);
        CHECK.due("no answer without an item", s.rows(), -1);
    }

    /** "At most 60 comparisons": each of sixty counts. */
    private static void sixtyComparisons() {
        CubeStore s = numbers(64);
        stageEach(s, 64);
        for (int n = 59; n <= 60; n++) {
            StringBuilder or = new StringBuilder("a.x=0");
            StringBuilder and = new StringBuilder("a.x<>0");
            StringBuilder alone = new StringBuilder("(a.x=0)");
            for (int i = 1; i < n; i++) {
                or.append(" or a.x=").append(i);
                and.append(" and not a.x=").append(i);
                alone.append(i % 2 == 0 ? " or (a.x=" : " or not (a.x<>").append(i).append(")");
            }
            CHECK.answers(s, "select count(*), max(m) where " + or + ";", 2, n + " " + (100 + n - 1));
            CHECK.answers(s, "select count(*), min(m) where " + and + ";", 2, (64 - n) + " " + (100 + n));
            CHECK.answers(s, "select count(*), max(m) where " + alone + ";", 2, n + " " + (100 + n - 1));
            CHECK.answers(s, "select count(*) where not (" + or + ");", 1, "" + (64 - n));
        }
        StringBuilder all = new StringBuilder("select count(*) where a.x=0");
        for (int i = 1; i <= 60; i++) {
            all.append(" or a.x=").append(i);
        }
        CHECK.fault(s, all + ";", 0, 7, all.indexOf("a.x=60"));
        CHECK.due("no answer", s.rows(), -1);
    }

    /** "40 numbers in a list": each of forty counts. */
    private static void fortyNumbers() {
        CubeStore s = numbers(64);
        stageEach(s, 64);
        for (int n = 1; n <= 40; n++) {
            String list = Check.repeat("#", n, ", ");
            CHECK.answers(s, "select count(*), max(m) where a.x in (" + list + ");", 2, n + " " + (99 + n));
            CHECK.answers(s, "select count(*), min(m) where a.x not in (" + list + ");", 2, (64 - n) + " " + (100 + n));
        }
        CHECK.answers(s, "select count(*) where a.x in (" + Check.repeat("7", 40, ",") + ");", 1, "1");
        CHECK.answers(s, "select count(*) where a.x not in (" + Check.repeat("7", 40, ",") + ");", 1, "63");
    }

    /** "40 brackets of a condition open at a time." */
    private static void fortyBrackets() {
        CubeStore s = numbers(8);
        stageEach(s, 8);
        for (int n = 1; n <= 40; n++) {
            String open = "(".repeat(n);
            String close = ")".repeat(n);
            CHECK.answers(s, "select count(*) where " + open + "a.x<3" + close + ";", 1, "3");
            CHECK.answers(s, "select count(*) where not " + open + "a.x<3" + close + " and a.x<>7;", 1, "4");
            CHECK.answers(s, "select count(*) where " + "not (".repeat(n) + "a.x<3" + close + ";", 1, n % 2 == 0 ? "3" : "5");
            CHECK.answers(s, "select count(*) where " + "a.x=7 or (".repeat(n) + "a.x<3" + close + ";", 1, "4");
            CHECK.answers(s, "select count(*) where " + "a.x<6 and not (".repeat(n) + "a.x<3" + close + ";", 1, "3");
            CHECK.answers(s, "select count(*) where " + open + "a.x<3" + ") or a.x=5".repeat(n) + ";", 1, "4");
            CHECK.answers(s, "select count(*) where " + open + "a.x<3" + ") and a.x<>2".repeat(n) + ";", 1, "2");
        }
    }

    /** Many nots and many brackets behind one another are no bound: only those open at a time are counted. */
    private static void longConditions() {
        CubeStore s = numbers(8);
        stageEach(s, 8);
        CHECK.answers(s, "select count(*) where " + "not ".repeat(4001) + "a.x<3;", 1, "5");
        CHECK.answers(s, "select count(*) where " + "not ".repeat(4000) + "a.x<3;", 1, "3");
        String deep = "(".repeat(40) + "a.x<#" + ")".repeat(40);
        CHECK.answers(s, "select count(*) where " + Check.repeat(deep, 7, " or ") + ";", 1, "6");
        CHECK.answers(s, "select count(*) where " + Check.repeat("not " + deep, 7, " and ") + ";", 1, "2");
        CHECK.answers(s, "select count(*) where " + Check.repeat("not not not (not (a.x=#))", 8, " or ") + " and a.y<>0;", 1, "8");
        StringBuilder mixed = new StringBuilder("a.x=0");
        for (int i = 0; i < 39; i++) {
            mixed.insert(0, "a.x=1 and not (a.x=2 or not (").append("))");
        }
        CHECK.fault(s, "select count(*) where " + mixed + ";", 0, 7, 22 + 20 * 29 + 14);
        CHECK.due("brackets of all conditions are closed at their end",
            Check.run(s, "select count(*) where " + deep.replace("#", "1") + ";select count(*) where " + deep.replace("#", "2") + ";"), 2);
        CHECK.due("the second one", s.cell(0, 0), 2);
    }

    /** All 60 comparisons and all 40 brackets at once: as much as can wait for what stands behind it, and as many nots. */
    private static void deepestConditions() {
        CubeStore s = numbers(64);
        stageEach(s, 64);
        StringBuilder deep = new StringBuilder();
        for (int level = 0; level < 40; level++) {
            deep.append("a.x=").append(level).append(level < 19 ? " or a.x>" + (level / 2) + " and not (" : " or not (");
        }
        deep.append("a.x<50").append(")".repeat(40));
        CHECK.due("comparisons", deep.toString().split("a\\.x").length - 1, 60);
        StringBuilder pairs = new StringBuilder();
        for (int i = 0; i < 30; i++) {
            pairs.append(i == 0 ? "" : " or ").append("not (not a.x=").append(i).append(" or not a.y=-").append(i).append(")");
        }
        CHECK.answers(s, "select count(*), max(m) where " + pairs + ";", 2, "30 129");
        CHECK.answers(s, "select count(*), min(m) where not (" + pairs + ");", 2, "34 130");
        StringBuilder due = new StringBuilder();
        for (int x = 0; x < 64; x++) {
            boolean holds = x < 50;
            for (int level = 39; level >= 0; level--) {
                holds = x == level || (level >= 19 || x > level / 2) && !holds;
            }
            due.append(!holds ? "" : (due.length() == 0 ? "" : " / ") + x);
        }
        CHECK.answers(s, "select a.x where " + deep + " group by a.x;", 1, due.toString());
    }

    /** "SEGMENTS of 1024 rows, but for the last one": facts and rows of views at just so many, with other parts behind. */
    private static void wholeSegments() {
        for (int rows : new int[] {1023, 1024, 1025, 2047, 2048, 2049}) {
            CubeStore s = Check.opened(512, "dimension a(x,y);dimension b(z);measure m;member a" + Check.repeat("(#,3)", 1000, ",")
                + ";member b(1),(2),(3);");
            for (int i = 0; i < 3; i++) {
                s.spread(4096, i);
                s.load();
            }
            // Facts are chosen from so that the view of a.x and b.z has more than two segments, with others behind it.
            CHECK.due("choose", s.choose(4), 4);
            CHECK.due("the first has all", s.view(0, 0) * 10 + s.view(0, 1), 0);
            s.spread(rows, 9);
            s.load();
            CHECK.due("audit", s.audit(), 0);
            CHECK.answers(s, "select count(*);", 1, "" + (12288 + rows));
            CHECK.answers(s, "select count(*) where a.x>=0 and b.z>0;", 1, "" + (12288 + rows));
            CHECK.due("from the view of all", s.served(), 0);
            s.settle();
            CHECK.answers(s, "select count(*) where a.x>=0 and b.z>0;", 1, "" + (12288 + rows));
            factsOfWholeSegments(rows);
            viewOfWholeSegments(rows);
        }
    }

    /** A load and a settling of so many facts; a view's part stands behind, that can't tell what is asked. */
    private static void factsOfWholeSegments(int facts) {
        CubeStore s = Check.opened(512, "dimension a(x);dimension b(z);measure m;member a(1),(2);member b" + Check.repeat("(#)", 1000, ",") + ";");
        s.stage(3);
        s.load();
        CHECK.due("choose", s.choose(1), 1);
        s.settle();
        s.spread(facts, 1);
        s.load();
        CHECK.due("no column of b is in it", s.view(0, 1), 1);
        for (int i = 0; i < 2; i++) {
            String due = Check.answer(s, "select count(*), sum(m);", 2);
            CHECK.due("from the view", s.served(), 0);
            CHECK.due("facts", s.cell(0, 0), facts + 3);
            CHECK.answers(s, "select count(*), sum(m) where b.z>=0;", 2, due);
            CHECK.due("from the facts", s.served(), -1);
            CHECK.due("audit", s.audit(), 0);
            CHECK.due("settle", s.settle() > 1, true);
        }
    }

    /** A view of so many rows, two facts each, and another view's part behind it. */
    private static void viewOfWholeSegments(int rows) {
        CubeStore s = Check.opened(512, "dimension a(x);dimension b(z);measure m;member a" + Check.repeat("(#)", 1000, ",")
            + ";member b(1),(2),(3);");
        for (int i = 0; i < rows; i++) {
            s.key(0, i % 1000);
            s.key(1, 1 + i / 1000);
            s.stage(2);
        }
        s.load();
        if (rows < 2048) {
            s.stage(1000);
            s.stage(1000);
            s.load();
        }
        CHECK.due("choose", s.choose(3) >= 2, true);
        int all = s.count(1);
        for (int i = 0; i < 2; i++) {
            CHECK.answers(s, "select count(*) where a.x>=0 and b.z>0;", 1, "" + all);
            CHECK.answers(s, "select count(*) where a.x>=0;", 1, "" + all);
            CHECK.due("from a view", s.served() >= 0, true);
            CHECK.answers(s, "select count(*) where b.z>0;", 1, "" + all);
            CHECK.due("audit", s.audit(), 0);
            s.settle();
        }
    }

    /** "the question's GROUP COLUMNS, in their order, 8 at most, no two the same." */
    private static void eightGroupColumns() {
        CubeStore s = Check.opened(64, "dimension a(k,l,m,n);dimension b(k,l,m,n);measure s;member a(1,10,100,1000),(2,11,100,1000);"
            + "member b(5,50,500,5000),(6,50,500,5000);");
        s.spread(40, 1);
        s.load();
        String columns = "b.n,a.k,a.n,b.k,a.l,b.l,a.m,b.m";
        String due = "5000 1 1000 5 10 50 100 500 / 5000 1 1000 6 10 50 100 500 / 5000 2 1000 5 11 50 100 500 / 5000 2 1000 6 11 50 100 500";
        CHECK.answers(s, "select " + columns + " group by " + columns + ";", 8, due);
        s.choose(16);
        CHECK.answers(s, "select " + columns + " group by " + columns + ";", 8, due);
        CHECK.due("from a view", s.served() >= 0, true);
        CHECK.answers(s, "select a.k, b.k, grouping(b.m), a.m group by rollup(a.k,b.k,a.l,b.l,a.n,b.n,a.m,b.m);", 4,
            "1 5 0 100 / 1 5 1 100 / 1 5 1 - / 1 5 1 - / 1 5 1 - / 1 5 1 - / 1 5 1 - / 1 6 0 100 / 1 6 1 100 / 1 6 1 - / 1 6 1 -"
            + " / 1 6 1 - / 1 6 1 - / 1 6 1 - / 1 - 1 - / 2 5 0 100 / 2 5 1 100 / 2 5 1 - / 2 5 1 - / 2 5 1 - / 2 5 1 - / 2 5 1 -"
            + " / 2 6 0 100 / 2 6 1 100 / 2 6 1 - / 2 6 1 - / 2 6 1 - / 2 6 1 - / 2 6 1 - / 2 - 1 - / - - 1 -");
    }

    /** "The GROUPING SETS are all that come by taking one set of each group together, at most 32." */
    private static void thirtyTwoSets() {
        CubeStore s = Check.opened(64, "dimension a(k,l,m,n);dimension b(k,l,m,n);measure s;member a(1,1,1,1);member b(1,1,1,1);");
        s.stage(3);
        s.load();
        String[] columns = {"a.k", "a.l", "a.m", "a.n", "b.k"};
        StringBuilder items = new StringBuilder("count(*)");
        for (String c : columns) {
            items.append(",").append(c).append(",grouping(").append(c).append(")");
        }
        StringBuilder due = new StringBuilder();
        for (int row = 0; row < 32; row++) {
            due.append(row == 0 ? "3" : " / 3");
            for (int c = 0; c < 5; c++) {
                due.append((row >> 4 - c & 1) == 0 ? " 1 0" : " - 1");
            }
        }
        CHECK.answers(s, "select " + items + " group by cube(a.k,a.l,a.m,a.n,b.k);", 11, due.toString());
        CHECK.answers(s, "select " + items + " group by cube(a.k,a.l),cube(a.m),rollup(a.n),cube(b.k);", 11, due.toString());
        CHECK.answers(s, "select " + items + ",b.n group by cube(a.k,a.l,a.m),cube(a.n,b.k),b.n,b.m;", 12,
            due.toString().replace(" / ", " 1 / ") + " 1");
    }

    /** "ROOM: the answer would have more than 4000 rows": 3 for each member of a, and one more for each pair with b.p. */
    private static void fourThousandRows() {
        CubeStore s = Check.opened(512, "dimension a(x);dimension b(p,q,r);measure m;member a" + Check.repeat("(#)", 1000, ",")
            + ";member b(1,1,1),(2,1,1);");
        for (int i = 0; i < 2; i++) {
            s.spread(4096, i);
            s.spread(4096, i + 10);
            s.load();
        }
        boolean[] seen = new boolean[3];
        for (int c = 0; c < 30; c++) {
            String where = " where a.x<>500 and (b.p=1 or a.x<" + c + ")";
            Check.run(s, "select a.x" + where + " group by a.x;");
            int members = s.rows();
            Check.run(s, "select a.x" + where + " group by a.x, b.p;");
            int rows = 3 * members + s.rows();
            String question = "select a.x, b.p, count(*)" + where + " group by a.x, rollup(b.r, b.q, b.p);";
            if (rows > 4000) {
                CHECK.fault(s, question, 0, 12, 0);
                CHECK.due("no answer", s.rows(), -1);
                CHECK.argument("no cell", () -> s.cell(0, 0));
            } else {
                CHECK.fine(s, question, 1);
                CHECK.due("rows", s.rows(), rows);
                CHECK.due("the last row", s.cell(rows - 1, 0), 999);
                CHECK.argument("none behind it", () -> s.cell(rows, 0));
            }
            if (rows >= 3999 && rows <= 4001) {
                seen[rows - 3999] = true;
            }
        }
        for (int i = 0; i < 3; i++) {
            CHECK.due("an answer of " + (3999 + i) + " was asked for", seen[i], true);
        }
    }

    /** 4000 rows with 24 items and eight group columns, and from a view as from the facts. */
    private static void fourThousandRowsOfAll() {
        CubeStore s = Check.opened(512, "dimension a(x,y,z,w);dimension b(p,q,r,s);measure m;member a" + Check.repeat("(#,#,1,1)", 1000, ",")
            + ";member b(1,1,1,1);");
        for (int i = 0; i < 2; i++) {
            s.spread(4096, i);
            s.spread(4096, i + 10);
            s.load();
        }
        String columns = "a.x,a.y,a.z,a.w,b.s,rollup(b.r,b.q,b.p)";
        String items = "a.x,count(*),sum(m),min(m),max(m),grouping(b.p)," + Check.repeat("a.y,grouping(b.q),b.r", 6, ",");
        String question = "select " + items + " group by " + columns + ";";
        String due = Check.answer(s, question, 24);
        CHECK.due("rows", s.rows(), 4000);
        CHECK.due("from the facts", s.served(), -1);
        s.choose(2);
        CHECK.answers(s, question, 24, due);
        CHECK.due("from a view", s.served() >= 0, true);
        CHECK.fault(s, "select " + items + " group by rollup(a.x,a.y,b.p,b.q),a.z,a.w,b.s,b.r;", 0, 12, 0);
    }

    /** "for the empty set just one, even if there are no facts"; "NONE if there are no facts". */
    private static void emptySet() {
        CubeStore s = numbers(3);
        String[] groups = {"", " group by rollup(a.x)", " group by cube(a.x,a.y)"};
        for (int i = 0; i < 2; i++) {
            for (String group : groups) {
                CHECK.answers(s, "select count(*),sum(m),min(m),max(m) where a.y=1" + group + ";", 4, "0 0 - -");
                CHECK.due("one row", s.rows(), 1);
                CHECK.due("0 for the least of none", s.cell(0, 2), 0);
                CHECK.due("0 for the greatest of none", s.cell(0, 3), 0);
                CHECK.due("a sum is not blank", s.isBlank(0, 1), false);
                CHECK.due("a count is not blank", s.isBlank(0, 0), false);
            }
            CHECK.answers(s, "select count(*) where a.y=1 group by a.x;", 1, "");
            CHECK.due("no row", s.rows(), 0);
            CHECK.due("an answer without rows is one", s.served(), -1);
            CHECK.argument("no cell", () -> s.cell(0, 0));
            CHECK.answers(s, "select count(*) where a.y=1 group by a.x,rollup(a.y);", 1, "");
            stageEach(s, 3);
        }
    }

    /** "sum is the sum of amounts (wrapping, as longs)", over facts, loads, views and settlings. */
    private static void sumsThatWrap() {
        long[] amounts = {Long.MAX_VALUE, 1, Long.MAX_VALUE, Long.MIN_VALUE, -1, Long.MIN_VALUE, Long.MIN_VALUE};
        CubeStore s = Check.opened(64, "dimension a(x);measure m;member a(1),(2);");
        long sum = 0;
        for (int i = 0; i < amounts.length; i++) {
            s.amount(0, amounts[i]);
            s.stage(1);
            s.load();
            sum += amounts[i];
            CHECK.answers(s, "select sum(m);", 1, "" + sum);
            if (i == 3) {
                CHECK.due("choose", s.choose(1), 1);
                CHECK.answers(s, "select sum(m);", 1, "" + sum);
                CHECK.due("from the view", s.served(), 0);
            }
        }
        s.settle();
        CHECK.answers(s, "select sum(m);", 1, "" + sum);
        CubeStore t = Check.opened(64, "dimension a(x);measure m;member a(1);");
        t.amount(0, Long.MIN_VALUE);
        t.stage(2);
        t.load();
        CHECK.answers(t, "select sum(m),min(m),max(m),count(*);", 4, "0 -9223372036854775808 -9223372036854775808 2");
        t.stage(999);
        t.load();
        CHECK.answers(t, "select sum(m),count(*);", 2, "-9223372036854775808 1001");
    }

    /** "min and max the least and the greatest amount", at the ends of longs and round 0. */
    private static void leastAndGreatest() {
        long[][] rows = {{Long.MIN_VALUE, Long.MAX_VALUE}, {0, -1}, {-1, 0}, {1, 0}, {Long.MAX_VALUE, Long.MAX_VALUE - 1},
            {Long.MIN_VALUE, Long.MIN_VALUE + 1}, {5, 5}};
        for (long[] row : rows) {
            CubeStore s = Check.opened(64, "dimension a(x);measure m;member a(1);");
            for (long amount : row) {
                s.amount(0, amount);
                s.stage(1);
                s.load();
            }
            String due = Math.min(row[0], row[1]) + " " + Math.max(row[0], row[1]);
            CHECK.answers(s, "select min(m),max(m);", 2, due);
            s.choose(1);
            CHECK.answers(s, "select min(m),max(m);", 2, due);
            CHECK.due("from a view", s.served(), 0);
        }
    }

    /** Comparisons with the least and the greatest int, at values that are there and beside them. */
    private static void comparisonsAtTheEndsOfInts() {
        int[] values = {Integer.MIN_VALUE, Integer.MIN_VALUE + 1, -1, 0, 1, Integer.MAX_VALUE - 1, Integer.MAX_VALUE};
        StringBuilder members = new StringBuilder();
        for (int v : values) {
            members.append(members.length() == 0 ? "" : ",").append("(").append(v).append(")");
        }
        CubeStore s = Check.opened(64, "dimension a(x);measure m;member a" + members + ";");
        for (int v : values) {
            s.key(0, v);
            s.stage(1);
        }
        s.load();
        for (int v : values) {
            int[] due = new int[8];
            for (int w : values) {
                due[0] += w == v ? 1 : 0;
                due[1] += w != v ? 1 : 0;
                due[2] += w < v ? 1 : 0;
                due[3] += w <= v ? 1 : 0;
                due[4] += w > v ? 1 : 0;
                due[5] += w >= v ? 1 : 0;
            }
            String[] signs = {"=", "<>", "<", "<=", ">", ">="};
            for (int i = 0; i < 6; i++) {
                CHECK.answers(s, "select count(*) where a.x" + signs[i] + v + ";", 1, "" + due[i]);
                CHECK.answers(s, "select count(*) where not a.x" + signs[i] + v + ";", 1, "" + (7 - due[i]));
            }
            for (int w : values) {
                int between = 0;
                for (int x : values) {
                    between += x >= v && x <= w ? 1 : 0;
                }
                CHECK.answers(s, "select count(*) where a.x between " + v + " and " + w + ";", 1, "" + between);
                CHECK.answers(s, "select count(*) where a.x in (" + v + "," + w + ");", 1, v == w ? "1" : "2");
                CHECK.answers(s, "select count(*) where a.x not in (" + v + "," + w + ");", 1, v == w ? "6" : "5");
            }
        }
    }

    /** "Rows are in order by the group columns, from the first on, a lesser value first, ALL behind all values." */
    private static void orderOfRows() {
        CubeStore s = Check.opened(64, "dimension a(x,y);dimension b(z);measure m;member a(2147483647,-2147483648),(-2147483648,2147483647),(0,0);"
            + "member b(1),(-1);");
        for (int a : new int[] {0, Integer.MAX_VALUE, Integer.MIN_VALUE}) {
            for (int b : new int[] {1, -1}) {
                s.key(0, a);
                s.key(1, b);
                s.stage(1);
            }
        }
        s.load();
        CHECK.answers(s, "select a.x group by cube(a.x);", 1, "-2147483648 / 0 / 2147483647 / -");
        CHECK.answers(s, "select a.y, b.z group by cube(a.y,b.z);", 2, "-2147483648 -1 / -2147483648 1 / -2147483648 - / 0 -1 / 0 1 / 0 -"
            + " / 2147483647 -1 / 2147483647 1 / 2147483647 - / - -1 / - 1 / - -");
        CHECK.answers(s, "select b.z, a.y group by cube(b.z,a.y);", 2, "-1 -2147483648 / -1 0 / -1 2147483647 / -1 - / 1 -2147483648 / 1 0"
            + " / 1 2147483647 / 1 - / - -2147483648 / - 0 / - 2147483647 / - -");
        CHECK.answers(s, "select a.x, a.y group by a.y, a.x;", 2, "2147483647 -2147483648 / 0 0 / -2147483648 2147483647");
    }

    /** "not binds closer than and, and closer than or." */
    private static void bindings() {
        CubeStore s = numbers(8);
        stageEach(s, 8);
        String[] bits = {"a.x in (4,5,6,7)", "a.x in (2,3,6,7)", "a.x in (1,3,5,7)"};
        for (int shape = 0; shape < 32; shape++) {
            String p = ((shape & 1) != 0 ? "not " : "") + bits[0];
            String q = ((shape & 2) != 0 ? "not " : "") + bits[1];
            String r = ((shape & 4) != 0 ? "not " : "") + bits[2];
            boolean firstAnd = (shape & 8) != 0;
            boolean secondAnd = (shape & 16) != 0;
            int due = 0;
            for (int x = 0; x < 8; x++) {
                boolean a = ((x & 4) != 0) != ((shape & 1) != 0);
                boolean b = ((x & 2) != 0) != ((shape & 2) != 0);
                boolean c = ((x & 1) != 0) != ((shape & 4) != 0);
                boolean holds = firstAnd ? (secondAnd ? a && b && c : a && b || c) : secondAnd ? a || b && c : a || b || c;
                due = due * 10 + (holds ? 1 : 0);
            }
            int got = 0;
            for (int x = 0; x < 8; x++) {
                Check.run(s, "select count(*) where (" + p + (firstAnd ? " and " : " or ") + q + (secondAnd ? " and " : " or ") + r
                    + ") and a.x=" + x + ";");
                got = got * 10 + (int) s.cell(0, 0);
            }
            CHECK.due("condition " + shape, got, due);
        }
    }

    /** "Of the answer to the last question that was carried out in the latest run() (none if that had none, also if there
     * was none since the beginning or recover())"; "Loads and other changes leave it." */
    private static void whichAnswerIsThere() {
        CubeStore s = new CubeStore(64);
        CHECK.due("at the beginning", s.rows(), -1);
        Check.run(s, Check.SHOPS);
        CHECK.due("after a run without a question", s.rows(), -1);
        s.open();
        CHECK.due("after open", s.rows(), -1);
        Check.run(s, "select count(*);");
        CHECK.due("of a question", s.rows(), 1);
        s.spread(50, 1);
        s.load();
        s.choose(2);
        s.settle();
        CHECK.due("changes leave it", s.cell(0, 0), 0);
        CHECK.due("and its table", s.served(), -1);
        Check.run(s, "select count(*), sum(n); select day.day group by day.day; select count(*);");
        CHECK.due("the last of three", s.cell(0, 0), 50);
        CHECK.argument("has one item", () -> s.cell(0, 1));
        Check.run(s, "select count(*), count(*); select day.day group by day.day; select day.day;");
        CHECK.due("the last that was carried out", s.rows(), 5);
        Check.run(s, "select ?");
        CHECK.due("none", s.rows(), -1);
        Check.run(s, "select count(*);");
        s.run();
        CHECK.due("none of an empty text", s.rows(), -1);
        Check.run(s, "select count(*);");
        Check.run(s, "measure q;");
        CHECK.due("none of a text with a fault", s.rows(), -1);
        Check.run(s, "select count(*);");
        s.recover();
        CHECK.due("none after recovery", s.rows(), -1);
        CHECK.state("served by none", () -> s.served());
    }
}
