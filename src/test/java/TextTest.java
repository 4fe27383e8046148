/** Promises 2 to 5: feed, trim, run and fault, with what the Terms say of the text, statements and faults. */
public final class TextTest {
    private static final Check CHECK = new Check("TextTest");
    private static final String LONG_40 = "abcdefghijklmnopqrstuvwxyz_0123456789ABC";
    private static final String SMALL = "dimension a(x,y);measure m;member a(1,10),(2,10),(3,20);";

    public static void main(String[] args) {
        CHECK.due("length of the long name", LONG_40.length(), 40);
        feeding();
        trimming();
        running();
        asking();
        signsAndNumbers();
        ends();
        others();
        names();
        taken();
        many();
        members();
        states();
        questions();
        conditions();
        groups();
        room();
        CHECK.end();
    }

    private static void feeding() {
        CubeStore s = new CubeStore(16);
        CHECK.due("first feed", s.feed(0x64696d65, 0x6e73696f, 0x6e206128, 0x78293b20, 0x20202020), 20);
        CHECK.due("bytes", s.count(6), 20);
        CHECK.due("highest byte first", s.run(), 1);
        CHECK.due("no fault", s.fault(0), 0);
        CHECK.due("used up", s.count(6), 0);
        for (int i = 1; i <= 3276; i++) {
            s.feed(0x20202020, 0x20202020, 0x20202020, 0x20202020, 0x20202020);
        }
        CHECK.due("3276 times 20", s.count(6), 65520);
        CHECK.state("feed beyond 65536", () -> s.feed(1, 2, 3, 4, 5));
        CHECK.due("refused feed changed nothing", s.count(6), 65520);
        CHECK.due("trim 3", s.trim(3), 65517);
        CHECK.state("feed up to 65537", () -> s.feed(1, 2, 3, 4, 5));
        CHECK.due("trim 1", s.trim(1), 65516);
        CHECK.due("feed up to 65536", s.feed(0x20202020, 0x20202020, 0x20202020, 0x20202020, 0x20202020), 65536);
        CHECK.state("feed on a full text", () -> s.feed(0, 0, 0, 0, 0));
        CHECK.due("blanks alone", s.run(), 0);
        for (int i = 1; i <= 3276; i++) {
            s.feed(0x20202020, 0x20202020, 0x20202020, 0x20202020, 0x20202020);
        }
        s.trim(4);
        s.feed(0x20202020, 0x20202020, 0x20202020, 0x20202020, 0x2020203c);
        CHECK.due("a sign as the last byte", s.run(), 0);
        CHECK.due("is another one", s.fault(0), 4);
        CHECK.due("at the last place", s.fault(1), 65535);
        Check.tell(s, "<=");
        s.trim(1);
        s.run();
        Check.tell(s, "");
        CHECK.due("nothing to run", s.run(), 0);
        CHECK.due("blanks have no fault", s.fault(0), 0);
        s.crash(0);
        CHECK.state("feed when DOWN", () -> s.feed(0, 0, 0, 0, 0));
    }

    private static void trimming() {
        CubeStore s = new CubeStore(16);
        CHECK.due("trim nothing", s.trim(0), 0);
        CHECK.argument("trim more than there are", () -> s.trim(1));
        s.feed(0, 0, 0, 0, 0);
        s.feed(0, 0, 0, 0, 0);
        CHECK.argument("trim 21", () -> s.trim(21));
        CHECK.argument("trim -1", () -> s.trim(-1));
        CHECK.due("trim 20", s.trim(20), 20);
        CHECK.due("trim 3", s.trim(3), 17);
        CHECK.argument("trim 18 of 17", () -> s.trim(18));
        CHECK.due("left", s.count(6), 17);
        s.crash(0);
        CHECK.argument("trim of a text that is gone", () -> s.trim(1));
        CHECK.argument("trim -1 when DOWN", () -> s.trim(-1));
        CHECK.state("trim 0 when DOWN", () -> s.trim(0));
    }

    private static void running() {
        CubeStore s = new CubeStore(16);
        CHECK.due("empty text", s.run(), 0);
        CHECK.fine(s, "dimension a(x);\n\tmeasure\rm;member a(1);", 3);
        CHECK.fault(s, "measure k;measure m;measure l;", 1, 6, 18);
        CHECK.fault(s, "measure k;", 0, 6, 8);
        CHECK.fine(s, "measure l;", 1);
        CHECK.due("open", s.open(), 2);
        CHECK.fine(s, "select count(*);select sum(m), sum(k), sum(l);", 2);
        CHECK.due("answer of the last one", s.isBlank(0, 2) ? 1 : 0, 0);
        CHECK.fault(s, "select count(*);select;", 1, 4, 22);
        CHECK.due("the first one's answer is there", s.rows(), 1);
        CHECK.argument("with one item", () -> s.cell(0, 1));
        CHECK.fault(s, "select;", 0, 4, 6);
        CHECK.due("no answer", s.rows(), -1);
        s.crash(0);
        CHECK.state("run when DOWN", () -> s.run());
    }

    private static void asking() {
        CubeStore s = new CubeStore(16);
        CHECK.due("no fault at first", s.fault(0), 0);
        CHECK.due("no place at first", s.fault(1), -1);
        CHECK.fault(s, "   #", 0, 1, 3);
        Check.tell(s, "measure m;");
        CHECK.due("the fault stays until the next run", s.fault(1), 3);
        s.run();
        CHECK.due("then it is gone", s.fault(1), -1);
        CHECK.argument("fault(2)", () -> s.fault(2));
        CHECK.argument("fault(-1)", () -> s.fault(-1));
        CHECK.fault(s, "?", 0, 1, 0);
        s.recover();
        CHECK.due("recovery takes the fault", s.fault(0), 0);
        CHECK.due("and its place", s.fault(1), -1);
        s.crash(0);
        CHECK.argument("fault(2) when DOWN", () -> s.fault(2));
        CHECK.state("fault(0) when DOWN", () -> s.fault(0));
    }

    private static CubeStore open() {
        return Check.opened(64, SMALL);
    }

    private static void signsAndNumbers() {
        CubeStore s = open();
        CHECK.fault(s, "select _a", 0, 1, 7);
        CHECK.fault(s, "select count(*) where a.x = -", 0, 1, 28);
        CHECK.fault(s, "select count(*) where a.x = - 1;", 0, 1, 28);
        CHECK.fault(s, "select count(*) where a.x = --1;", 0, 1, 28);
        CHECK.fault(s, "select count(*)\u00e4;", 0, 1, 15);
        CHECK.fault(s, "select count(*)\u0000;", 0, 1, 15);
        CHECK.fault(s, "select count(*)\u000b;", 0, 1, 15);
        CHECK.fine(s, "select count(*) where a.x=-1;", 1);
        CHECK.fine(s, "select count(*) where a.x>=-2147483648 and a.x<=2147483647;", 1);
        CHECK.fault(s, "select count(*) where a.x = 2147483648;", 0, 2, 28);
        CHECK.fault(s, "select count(*) where a.x = -2147483649;", 0, 2, 28);
        CHECK.fault(s, "select count(*) where a.x = -21474836480;", 0, 2, 28);
        CHECK.fault(s, "select count(*) where a.x = 99999999999999999999999999999;", 0, 2, 28);
        CHECK.fine(s, "select count(*) where a.x = 00000000000000000000002147483647;", 1);
        CHECK.fault(s, "2147483648", 0, 2, 0);
        CHECK.fault(s, "select 2147483648", 0, 2, 7);
        CHECK.fault(s, "select count(*) where a.x = 1b;", 0, 4, 29);
        CHECK.fault(s, "select count(*) where a.x < = 1;", 0, 4, 28);
        CHECK.fault(s, "select count(*) where a.x => 1;", 0, 4, 27);
        CHECK.fault(s, "select count(*) where a.x <>= 1;", 0, 4, 28);
        Check.tell(s, "select count(*) where a.x <=");
        s.trim(1);
        s.run();
        CHECK.due("what was trimmed is no part of a sign", s.fault(0), 3);
        CHECK.due("the text ends before it", s.fault(1), 27);
        CHECK.fault(s, "select count(*) where a.x <=", 0, 3, 28);
        CHECK.fault(s, "select count(*) where a.x = 12", 0, 3, 30);
        Check.tell(s, "select counts");
        s.trim(1);
        s.run();
        CHECK.due("nor of a word", s.fault(0) * 100 + s.fault(1), 312);
        Check.tell(s, "select count(*) where a.x = 2147483647;");
        s.trim(1);
        s.trim(1);
        s.run();
        CHECK.due("nor of a number", s.fault(0) * 100 + s.fault(1), 337);
        CHECK.fine(s, "select count(*) where a . x<>1;", 1);
        CHECK.fine(s, "select\tcount\r(\n* )where a.x<-1;", 1);
    }

    private static void ends() {
        CubeStore s = open();
        CHECK.fault(s, "select", 0, 3, 6);
        CHECK.fault(s, "select   ", 0, 3, 9);
        CHECK.fault(s, "select count(*)", 0, 3, 15);
        CHECK.fault(s, "select count(*);select count(*) where", 1, 3, 37);
        CHECK.fault(s, "select count(*) where a", 0, 3, 23);
        CHECK.fault(s, "select count(*) where (a.x = 1", 0, 3, 30);
        CHECK.fault(s, "select count(*) where a.x in (1,", 0, 3, 32);
        CHECK.fault(s, "select count(*) group", 0, 3, 21);
        CHECK.fault(s, "select count(*) group by cube(a.x", 0, 3, 33);
        CubeStore n = new CubeStore(16);
        CHECK.fault(n, "dimension", 0, 3, 9);
        CHECK.fault(n, "dimension a", 0, 3, 11);
        CHECK.fault(n, "dimension a(x)", 0, 3, 14);
        CHECK.fault(n, "measure a", 0, 3, 9);
        CHECK.fine(n, "dimension a(x);", 1);
        CHECK.fault(n, "member a (1", 0, 3, 11);
        CHECK.fault(n, "member a (1),(2)", 0, 3, 16);
        CHECK.fine(n, "measure m;", 1);
        CHECK.state("no member came", () -> n.open());
    }

    private static void others() {
        CubeStore s = open();
        CHECK.fault(s, ";", 0, 4, 0);
        CHECK.fault(s, "a", 0, 4, 0);
        CHECK.fault(s, "Select count(*);", 0, 4, 0);
        CHECK.fault(s, "where", 0, 4, 0);
        CHECK.fault(s, LONG_40 + "x", 0, 4, 0);
        CHECK.fault(s, "12", 0, 4, 0);
        CHECK.fault(s, "select 5;", 0, 4, 7);
        CHECK.fault(s, "select count(a);", 0, 4, 13);
        CHECK.fault(s, "select count *;", 0, 4, 13);
        CHECK.fault(s, "select count(*;", 0, 4, 14);
        CHECK.fault(s, "select sum(*);", 0, 4, 11);
        CHECK.fault(s, "select sum(m, m);", 0, 4, 12);
        CHECK.fault(s, "select a x;", 0, 4, 9);
        CHECK.fault(s, "select count(*) a.x;", 0, 4, 16);
        CHECK.fault(s, "select count(*) by a.x;", 0, 4, 16);
        CHECK.fault(s, "select count(*),;", 0, 4, 16);
        CHECK.fault(s, "select count(*) group a.x;", 0, 4, 22);
        CHECK.fault(s, "select count(*) group by a.x where a.x = 1;", 0, 4, 29);
        CHECK.fault(s, "select count(*) group by a.x,;", 0, 4, 29);
        CHECK.fault(s, "select count(*) group by rollup a.x;", 0, 4, 32);
        CHECK.fault(s, "select count(*) group by rollup(a.x;", 0, 4, 35);
        CHECK.fault(s, "select count(*) group by rollup();", 0, 4, 32);
        CHECK.fault(s, "select count(*) where a.x 1;", 0, 4, 26);
        CHECK.fault(s, "select count(*) where a.x = a;", 0, 4, 28);
        CHECK.fault(s, "select count(*) where a.x = 1);", 0, 4, 29);
        CHECK.fault(s, "select count(*) where (a.x = 1;", 0, 4, 30);
        CHECK.fault(s, "select count(*) where a.x = 1 a.x = 2;", 0, 4, 30);
        CHECK.fault(s, "select count(*) where a.x not = 1;", 0, 4, 30);
        CHECK.fault(s, "select count(*) where a.x between 1, 2;", 0, 4, 35);
        CHECK.fault(s, "select count(*) where a.x between 1 or 2;", 0, 4, 36);
        CHECK.fault(s, "select count(*) where a.x in 1;", 0, 4, 29);
        CHECK.fault(s, "select count(*) where a.x in ();", 0, 4, 30);
        CHECK.fault(s, "select count(*) where a.x in (1 2);", 0, 4, 32);
        CHECK.fault(s, "select count(*) where ();", 0, 4, 23);
        CubeStore n = new CubeStore(16);
        CHECK.fault(n, "dimension 5(x);", 0, 4, 10);
        CHECK.fault(n, "dimension a x;", 0, 4, 12);
        CHECK.fault(n, "dimension a();", 0, 4, 12);
        CHECK.fault(n, "dimension a(x y);", 0, 4, 14);
        CHECK.fault(n, "dimension a(x) measure", 0, 4, 15);
        CHECK.fault(n, "measure m,", 0, 4, 9);
        CHECK.fine(n, "dimension a(x);", 1);
        CHECK.fault(n, "member a;", 0, 4, 8);
        CHECK.fault(n, "member a (x);", 0, 4, 10);
        CHECK.fault(n, "member a ();", 0, 4, 10);
        CHECK.fault(n, "member a (1) (2);", 0, 4, 13);
        CHECK.fault(n, "member a (1),;", 0, 4, 13);
    }

    private static void names() {
        CubeStore n = new CubeStore(16);
        CHECK.fault(n, "dimension select(x);", 0, 5, 10);
        CHECK.fault(n, "dimension " + LONG_40 + "D(x);", 0, 5, 10);
        CHECK.fine(n, "dimension " + LONG_40 + "(" + LONG_40 + ");", 1);
        CHECK.fault(n, "dimension a(in);", 0, 5, 12);
        CHECK.fault(n, "measure by;", 0, 5, 8);
        CHECK.fault(n, "member b (1);", 0, 5, 7);
        CHECK.fault(n, "member max (1);", 0, 5, 7);
        CHECK.fine(n, "dimension Select(By);measure selects;measure MAX;measure dimension_;", 4);
        for (String word : ModelParser.RESERVED) {
            CHECK.fault(n, "measure " + word + ";", 0, 5, 8);
        }
        CubeStore s = open();
        CHECK.fault(s, "select b.x;", 0, 5, 7);
        CHECK.fault(s, "select m.x;", 0, 5, 7);
        CHECK.fault(s, "select A.x;", 0, 5, 7);
        CHECK.fault(s, "select a.z group by a.x;", 0, 5, 9);
        CHECK.fault(s, "select a.sum;", 0, 5, 9);
        CHECK.fault(s, "select where;", 0, 5, 7);
        CHECK.fault(s, "select rollup(a.x);", 0, 5, 7);
        CHECK.fault(s, "select sum(a);", 0, 5, 11);
        CHECK.fault(s, "select sum(sum);", 0, 5, 11);
        CHECK.fault(s, "select grouping(count);", 0, 5, 16);
        CHECK.fault(s, "select " + LONG_40 + "D;", 0, 5, 7);
        CHECK.fault(s, "select count(*) where and a.x = 1;", 0, 5, 22);
        CHECK.fault(s, "select count(*) where not in (1);", 0, 5, 26);
        CHECK.fault(s, "select count(*) where a.x = 1 and or", 0, 5, 34);
        CHECK.fault(s, "select count(*) where b.x = 1;", 0, 5, 22);
        CHECK.fault(s, "select count(*) where;", 0, 4, 21);
        CHECK.fault(s, "select count(*) group by grouping(a.x);", 0, 5, 25);
        CHECK.fault(s, "select count(*) group by cube(rollup(a.x));", 0, 5, 30);
    }

    private static void taken() {
        CubeStore n = new CubeStore(16);
        CHECK.fine(n, "dimension a(x);measure m;", 2);
        CHECK.fault(n, "dimension a(y);", 0, 6, 10);
        CHECK.fault(n, "dimension m(y);", 0, 6, 10);
        CHECK.fault(n, "measure a;", 0, 6, 8);
        CHECK.fault(n, "measure m;", 0, 6, 8);
        CHECK.fault(n, "dimension b(x,y,x);", 0, 6, 16);
        CHECK.fine(n, "dimension b(b,x);measure x;", 2);
        CHECK.fault(n, "dimension x(y);", 0, 6, 10);
    }

    private static void many() {
        CubeStore n = new CubeStore(16);
        CHECK.fine(n, "dimension a(k,l,m,n);", 1);
        CHECK.fault(n, "dimension b(k,l,m,n,o);", 0, 7, 20);
        CHECK.fault(n, "dimension b(k,l,m,n,k);", 0, 6, 20);
        CHECK.fine(n, Check.repeat("dimension b#(x);", 7, ""), 7);
        CHECK.fault(n, "dimension c(x);", 0, 7, 10);
        CHECK.fault(n, "dimension c", 0, 7, 10);
        CHECK.fault(n, "dimension a(x);", 0, 6, 10);
        CHECK.fine(n, Check.repeat("measure m#;", 8, ""), 8);
        CHECK.fault(n, "measure c;", 0, 7, 8);
        CHECK.fault(n, "measure m7;", 0, 6, 8);

        CubeStore s = open();
        CHECK.fine(s, "select " + Check.repeat("count(*)", 24, ",") + ";", 1);
        CHECK.fault(s, "select " + Check.repeat("count(*)", 25, ",") + ";", 0, 7, 7 + 24 * 9);
        CHECK.fault(s, "select " + Check.repeat("count(*)", 24, ",") + ",a.x;", 0, 7, 7 + 24 * 9);
        CHECK.fault(s, "select " + Check.repeat("count(*)", 24, ",") + ",b.x;", 0, 5, 7 + 24 * 9);
        CHECK.fault(s, "select " + Check.repeat("count(*)", 24, ",") + ",;", 0, 4, 7 + 24 * 9);
        String head = "select count(*) where ";
        CHECK.fine(s, head + Check.repeat("a.x=1", 60, " or ") + ";", 1);
        CHECK.fault(s, head + Check.repeat("a.x=1", 61, " or ") + ";", 0, 7, 22 + 60 * 9);
        CHECK.fault(s, head + Check.repeat("a.x=1", 60, " or ") + " or a.", 0, 7, 22 + 60 * 9);
        CHECK.fault(s, head + Check.repeat("a.x=1", 60, " or ") + " or b.", 0, 5, 22 + 60 * 9);
        CHECK.fine(s, head + "a.x in(" + Check.repeat("1", 40, ",") + ");", 1);
        CHECK.fault(s, head + "a.x in(" + Check.repeat("1", 41, ",") + ");", 0, 7, 29 + 80);
        CHECK.fault(s, head + "a.x not in(" + Check.repeat("1", 41, ",") + ");", 0, 7, 33 + 80);
        CHECK.fault(s, head + "a.x in(" + Check.repeat("1", 40, ",") + ",);", 0, 4, 29 + 80);
        CHECK.fine(s, head + Check.repeat("(", 40, "") + "a.x in (1)" + Check.repeat(")", 40, "") + ";", 1);
        CHECK.fault(s, head + Check.repeat("(", 41, "") + "a.x=1" + Check.repeat(")", 41, "") + ";", 0, 7, 62);
        CHECK.fine(s, head + Check.repeat("(", 40, "") + "a.x=1" + Check.repeat(")", 40, "") + " and "
            + Check.repeat("(", 40, "") + "a.x=1" + Check.repeat(")", 40, "") + ";", 1);
    }

    private static void members() {
        CubeStore n = new CubeStore(16);
        CHECK.fine(n, "dimension a(x,y,z);dimension b(w);measure m;", 3);
        CHECK.fault(n, "member a (1,2);", 0, 7, 9);
        CHECK.fault(n, "member a (1,2,3,4);", 0, 7, 9);
        CHECK.fault(n, "member a (1,2,3),(2,2,3,4,5,6,7);", 0, 7, 17);
        CHECK.fault(n, "member a (1,2", 0, 3, 13);
        CHECK.fine(n, "member a (1,2,3),(2,2,3),(3,3,3);", 1);
        CHECK.fault(n, "member a (1,2,3);", 0, 9, 9);
        CHECK.fault(n, "member a (4,2,4);", 0, 9, 9);
        CHECK.fault(n, "member a (4,4,4), (5,4,5) , (6,6,6);", 0, 9, 18);
        CHECK.fault(n, "member a (4,4,4),(4,4,4);", 0, 9, 17);
        CHECK.fault(n, "member a (1,2);", 0, 7, 9);
        CHECK.fine(n, "member a (4,4,4),(5,4,4);", 1);
        CHECK.fine(n, "member b (1),(2);member b (-3);", 2);
        CHECK.fault(n, "member b (-3),(1", 0, 9, 9);
        CHECK.fine(n, "member b " + Check.repeat("(1#)", 499, ",") + ";", 1);
        CHECK.fine(n, "member b " + Check.repeat("(-1#)", 497, ",") + ";", 1);
        CHECK.fault(n, "member b (7),(8);", 0, 7, 13);
        CHECK.fine(n, "member b (7);", 1);
        CHECK.fault(n, "member b (7);", 0, 7, 9);
        CHECK.fault(n, "member b (", 0, 7, 9);
        CHECK.due("a thousand members are fine", n.open(), 2);
        CHECK.due("one of them", n.key(1, -1496), true);
        CHECK.due("none of them", n.key(1, 8), false);
        CHECK.due("a member of a refused statement", n.key(0, 6), false);
        String thousand = "dimension c(x);member c" + Check.repeat("(1#)", 1000, ",");
        CHECK.fault(new CubeStore(16), thousand + ",(0);", 1, 7, thousand.length() + 1);
        CHECK.fine(new CubeStore(16), thousand + ";", 2);
    }

    private static void states() {
        CubeStore s = new CubeStore(16);
        CHECK.fault(s, "select", 0, 8, 0);
        CHECK.fault(s, " select count(*);", 0, 8, 1);
        CHECK.fine(s, SMALL, 3);
        CHECK.fault(s, "measure k;select count(*);", 1, 8, 10);
        s.open();
        CHECK.fault(s, "measure", 0, 8, 0);
        CHECK.fault(s, "select count(*); dimension b(x);", 1, 8, 17);
        CHECK.fault(s, "member a (9,10);", 0, 8, 0);
    }

    private static void questions() {
        CubeStore s = open();
        CHECK.fault(s, "select a.x;", 0, 11, 7);
        CHECK.fault(s, "select count(*), grouping(a.x), a.y group by a.y;", 0, 11, 17);
        CHECK.fault(s, "select count(*), a.x, grouping(a.x) group by a.y;", 0, 11, 17);
        CHECK.fault(s, "select a.x", 0, 3, 10);
        CHECK.fault(s, "select a.x group by a.y, a.y;", 0, 10, 25);
        CHECK.fine(s, "select a.x, a.x, grouping(a.y) group by a.y, a.x;", 1);
    }

    private static void conditions() {
        CubeStore s = open();
        CHECK.fine(s, "select count(*) where not not not a.x = 1;", 1);
        CHECK.fine(s, "select count(*) where not (not (a.x = 1 or a.y = 10) and not a.x not in (1, 2));", 1);
        CHECK.fault(s, "select count(*) where a.x = 1 and;", 0, 4, 33);
        CHECK.fault(s, "select count(*) where not;", 0, 4, 25);
    }

    private static void groups() {
        CubeStore s = Check.opened(64, "dimension a(k,l,m,n);dimension b(k,l,m,n);dimension c(k);measure s;"
            + "member a(1,1,1,1);member b(1,1,1,1);member c(1);");
        s.stage(1);
        s.load();
        String eight = "a.k,a.l,a.m,a.n,b.k,b.l,b.m,b.n";
        CHECK.fine(s, "select count(*) group by " + eight + ";", 1);
        CHECK.fault(s, "select count(*) group by " + eight + ",c.k;", 0, 7, 25 + 32);
        CHECK.fault(s, "select count(*) group by " + eight + ",a.k;", 0, 7, 25 + 32);
        CHECK.fault(s, "select count(*) group by " + eight + ",d.k;", 0, 5, 25 + 32);
        CHECK.fault(s, "select count(*) group by rollup(" + eight + ",c.k", 0, 7, 32 + 32);
        CHECK.fine(s, "select count(*) group by rollup(" + eight + ");", 1);
        CHECK.due("a rollup of 8 has 9 sets", s.rows(), 9);
        CHECK.fault(s, "select count(*) group by a.k, cube(a.k);", 0, 10, 35);
        CHECK.fault(s, "select count(*) group by a.k, a.k.", 0, 10, 30);
        CHECK.fine(s, "select count(*) group by cube(a.k,a.l,a.m,a.n,b.k);", 1);
        CHECK.due("a cube of 5 has 32 sets", s.rows(), 32);
        CHECK.fine(s, "select count(*) group by cube(a.k,a.l,a.m,a.n,b.k), b.l, b.m;", 1);
        CHECK.due("columns add none", s.rows(), 32);
        CHECK.fault(s, "select count(*) group by cube(a.k,a.l,a.m,a.n,b.k,b.l);", 0, 7, 16);
        CHECK.fault(s, "select count(*) group by cube(a.k,a.l,a.m,a.n,b.k,b.l", 0, 3, 53);
        CHECK.fault(s, "select count(*) group by cube(a.k,a.l,a.m,a.n,b.k),rollup(b.l)", 0, 7, 16);
        CHECK.fine(s, "select count(*) group by cube(a.k,a.l,a.m), rollup(a.n,b.k,b.l);", 1);
        CHECK.due("8 times 4 sets", s.rows(), 32);
        CHECK.fault(s, "select count(*) group by cube(a.k,a.l,a.m), rollup(a.n,b.k,b.l,b.m);", 0, 7, 16);
        CHECK.fine(s, "select count(*) group by a.k, rollup(a.l,a.m), b.k, cube(b.l);", 1);
    }

    private static void room() {
        CubeStore s = Check.opened(512, "dimension a(x);dimension b(p,q,r);measure m;member a"
            + Check.repeat("(#)", 1000, ",") + ";member b(1,1,1);");
        for (int i = 0; i < 3; i++) {
            s.spread(4096, i);
            s.load();
        }
        CHECK.fine(s, "select a.x group by a.x;", 1);
        CHECK.due("each member has a fact", s.rows(), 1000);
        CHECK.fine(s, "select a.x, count(*) group by a.x, rollup(b.p, b.q, b.r);", 1);
        CHECK.due("there is room for 4000 rows", s.rows(), 4000);
        CHECK.fault(s, " select a.x, count(*) group by rollup(a.x, b.p, b.q, b.r);", 0, 12, 1);
        CHECK.due("no answer", s.rows(), -1);
        CHECK.fault(s, "select count(*), sum(m);select a.x group by rollup(a.x, b.p, b.q, b.r);select count(*);", 1, 12, 24);
        CHECK.due("the answer before it", s.rows(), 1);
        CHECK.due("with its items", s.cell(0, 0), 12288);
        CHECK.fine(s, "select a.x where a.x <> 5 group by rollup(a.x, b.p, b.q, b.r);", 1);
        CHECK.due("there is room for those", s.rows(), 3997);
    }
}
