/**
 * When each fault is asked: TAKEN, MANY, STATE, KEY, TWICE, GROUP and ROOM, at their places, before what stands behind
 * them and behind what stands before them. "The first one as the text is read counts; then nothing more is carried out
 * (what was before it stays)."
 */
public final class FaultOrderTest {
    private static final Check CHECK = new Check("FaultOrderTest");
    private static final String LONG_41 = "a2345678901234567890123456789012345678901";
    private static final int SIGN = 1;
    private static final int NUMBER = 2;
    private static final int END = 3;
    private static final int OTHER = 4;
    private static final int NAME = 5;
    private static final int TAKEN = 6;
    private static final int MANY = 7;
    private static final int STATE = 8;
    private static final int KEY = 9;
    private static final int TWICE = 10;
    private static final int GROUP = 11;
    private static final int ROOM = 12;

    public static void main(String[] args) {
        namesThatAreTaken();
        dimensions();
        levels();
        measures();
        members();
        valuesOfMembers();
        keys();
        allMembersOrNone();
        items();
        comparisons();
        numbersOfAList();
        brackets();
        groupColumns();
        groupingSets();
        twice();
        strayItems();
        states();
        room();
        firstFaultCounts();
        CHECK.end();
    }

    /** Words, numbers and signs that are faults wherever a name must stand, with the fault that is due. */
    private static void asName(CubeStore s, String text) {
        int place = text.length();
        CHECK.fault(s, text + "?", 0, SIGN, place);
        CHECK.fault(s, text + "2147483648", 0, NUMBER, place);
        CHECK.fault(s, text, 0, END, place);
        CHECK.fault(s, text + "5", 0, OTHER, place);
        CHECK.fault(s, text + "<>", 0, OTHER, place);
        CHECK.fault(s, text + "by", 0, NAME, place);
        CHECK.fault(s, text + LONG_41, 0, NAME, place);
    }

    /** The fault of a name, whatever stands behind it: it is asked when that was read. */
    private static void atOnce(CubeStore s, String text, String name, int kind) {
        for (String behind : new String[] {"", " ", "?", " 2147483648", " 5", " (", ";", " " + LONG_41, "(x);"}) {
            CHECK.fault(s, text + name + behind, 0, kind, text.length());
        }
    }

    /** "TAKEN: a new name that a dimension or measure has, or a level of the same dimension." */
    private static void namesThatAreTaken() {
        CubeStore s = new CubeStore(16);
        CHECK.fine(s, "dimension a(x,y);measure m;", 2);
        for (String there : new String[] {"a", "m"}) {
            atOnce(s, "dimension ", there, TAKEN);
            atOnce(s, "measure ", there, TAKEN);
        }
        atOnce(s, "dimension b(p,", "p", TAKEN);
        atOnce(s, "dimension b(p,q,", "p", TAKEN);
        atOnce(s, "dimension b(p,q,", "q", TAKEN);
        atOnce(s, "dimension b(p,q,r,", "q", TAKEN);
        CHECK.fault(s, "dimension b(p);dimension b(q);dimension c(q);", 1, TAKEN, 25);
        CHECK.fault(s, "measure k;dimension k(q);", 1, TAKEN, 20);
        // A dimension that was refused has no name, and another one's levels are no matter.
        CHECK.fault(s, "dimension d(p,p);", 0, TAKEN, 14);
        CHECK.fine(s, "dimension d(x,y,p);measure x;measure p;", 3);
        CHECK.fault(s, "dimension p(x);", 0, TAKEN, 10);
        CHECK.fine(s, "dimension y(y,z);", 1);
    }

    /** "one more dimension .. (at its name)": the ninth. */
    private static void dimensions() {
        CubeStore s = new CubeStore(16);
        CHECK.fine(s, Check.repeat("dimension d#(x);", 7, "") + "measure m;", 8);
        CHECK.fine(s, "dimension d7(x);", 1);
        asName(s, "dimension ");
        atOnce(s, "dimension ", "d8", MANY);
        atOnce(s, "dimension ", "d7", TAKEN);
        atOnce(s, "dimension ", "m", TAKEN);
        CHECK.fault(s, "measure k;dimension d8(x);measure l;", 1, MANY, 20);
        CHECK.fault(s, "measure l;measure k;", 1, TAKEN, 18);
    }

    /** "level .. (at its name)": the fifth. */
    private static void levels() {
        CubeStore s = new CubeStore(16);
        asName(s, "dimension a(x,y,z,w,");
        atOnce(s, "dimension a(x,y,z,w,", "v", MANY);
        atOnce(s, "dimension a(x,y,z,w,", "x", TAKEN);
        atOnce(s, "dimension a(x,y,z,w,", "w", TAKEN);
        CHECK.fine(s, "dimension a(x,y,z,w);dimension b(x,y,z);dimension c(x);", 3);
        CHECK.fault(s, "dimension e();", 0, OTHER, 12);
    }

    /** "measure (at its name)": the ninth. */
    private static void measures() {
        CubeStore s = new CubeStore(16);
        CHECK.fine(s, Check.repeat("measure m#;", 7, "") + "dimension a(x);", 8);
        CHECK.fine(s, "measure m7;", 1);
        asName(s, "measure ");
        atOnce(s, "measure ", "m8", MANY);
        atOnce(s, "measure ", "m7", TAKEN);
        atOnce(s, "measure ", "a", TAKEN);
        CHECK.fine(s, "dimension b(x);", 1);
    }

    /** "member (at its bracket)": the 1001st, over several statements or in one. */
    private static void members() {
        String thousand = "member a" + Check.repeat("(#)", 1000, ",");
        CubeStore s = new CubeStore(16);
        CHECK.fine(s, "dimension a(x);", 1);
        CHECK.fault(s, thousand + ",(1000);", 0, MANY, thousand.length() + 1);
        CHECK.fault(s, thousand + ",(1000", 0, MANY, thousand.length() + 1);
        CHECK.fault(s, thousand + ",(?", 0, MANY, thousand.length() + 1);
        CHECK.fault(s, thousand + ",(", 0, MANY, thousand.length() + 1);
        CHECK.fault(s, thousand + ",", 0, END, thousand.length() + 1);
        CHECK.fault(s, thousand + ",5", 0, OTHER, thousand.length() + 1);
        CHECK.fine(s, "member a" + Check.repeat("(#)", 999, ",") + ";", 1);
        CHECK.fault(s, "member a(5000),(5001);", 0, MANY, 15);
        CHECK.fine(s, "member a(5000);", 1);
        CHECK.fault(s, "member a(5001);", 0, MANY, 8);
        CHECK.fault(s, "member a(5000);", 0, MANY, 8);
        CHECK.fault(s, "member a(1,2,3);", 0, MANY, 8);
        CHECK.fault(s, "member a;", 0, OTHER, 8);
        CHECK.fine(s, "dimension b(x);" + thousand.replace(" a", " b") + ";", 2);
    }

    /** "too few or too many values of a member (at the bracket that begins it, asked at its end bracket)". */
    private static void valuesOfMembers() {
        for (int levels = 1; levels <= 4; levels++) {
            CubeStore s = new CubeStore(16);
            CHECK.fine(s, "dimension a(" + "x,y,z,w".substring(0, 2 * levels - 1) + ");", 1);
            for (int values = 1; values <= 6; values++) {
                String member = "member a (" + Check.repeat("1", values, ",");
                if (values != levels) {
                    CHECK.fault(s, member + ");", 0, MANY, 9);
                    CHECK.fault(s, member + ")?", 0, MANY, 9);
                    CHECK.fault(s, member + ")", 0, MANY, 9);
                    CHECK.fault(s, "member a (7" + ",7".repeat(levels - 1) + "), (1" + ",1".repeat(values - 1) + ")?", 0, MANY,
                        12 + 2 * levels);
                }
                CHECK.fault(s, member + "?", 0, SIGN, member.length());
                CHECK.fault(s, member + ";", 0, OTHER, member.length());
                CHECK.fault(s, member, 0, END, member.length());
                CHECK.fault(s, member + ",x", 0, OTHER, member.length() + 1);
            }
            CHECK.fine(s, "member a (1" + ",1".repeat(levels - 1) + ");", 1);
        }
        CubeStore s = new CubeStore(16);
        CHECK.fine(s, "dimension a(x);", 1);
        CHECK.fault(s, "member a (" + Check.repeat("#", 5000, ",") + ");", 0, MANY, 9);
        CHECK.fault(s, "member a ();", 0, OTHER, 10);
    }

    /**
     * "KEY: a member whose value at level 0 another one has, or whose values don't go with those of another one (at the
     * bracket that begins it, asked when its end bracket is read, behind MANY; members before it in the same statement
     * count)."
     */
    private static void keys() {
        CubeStore s = new CubeStore(16);
        CHECK.fine(s, "dimension a(x,y,z,w);member a (1,10,100,1000);", 2);
        CHECK.fault(s, "member a (1,10,100,1000);", 0, KEY, 9);
        CHECK.fault(s, "member a (1,11,101,1001);", 0, KEY, 9);
        CHECK.fault(s, "member a (2,10,101,1000);", 0, KEY, 9);
        CHECK.fault(s, "member a (2,10,100,1001);", 0, KEY, 9);
        CHECK.fault(s, "member a (2,10,101,1001);", 0, KEY, 9);
        CHECK.fault(s, "member a (2,11,100,1001);", 0, KEY, 9);
        for (String behind : new String[] {"?", "", ";", " 5", ",", " 99999999999"}) {
            CHECK.fault(s, "member a (1,1,1,1)" + behind, 0, KEY, 9);
        }
        CHECK.fault(s, "member a (1,1,1,1", 0, END, 17);
        CHECK.fault(s, "member a (1,1,1,1?", 0, SIGN, 17);
        CHECK.fault(s, "member a (1,1,1);", 0, MANY, 9);
        CHECK.fault(s, "member a (1,1,1,1,1);", 0, MANY, 9);
        CHECK.fault(s, "member a (2,10,100,1000),(2,10,100,1000);", 0, KEY, 25);
        CHECK.fault(s, "member a (2,11,101,1001),(3,11,101,1000);", 0, KEY, 25);
        // What goes together: the same from some level on, or nothing at all; values of other levels are no matter.
        CHECK.fine(s, "member a (2,10,100,1000),(3,11,100,1000),(4,12,101,1000),(5,13,102,1001),(10,1,1,1),(100,100,10,1);", 1);
        CHECK.fault(s, "member a (6,12,102,1001);", 0, KEY, 9);
        CHECK.fine(s, "dimension b(x);member b(1),(2);dimension c(x,y);member c(1,1),(2,2),(3,1);", 4);
        CHECK.fault(s, "member b(3),(2);", 0, KEY, 12);
        CHECK.fine(s, "member b(-1),(0),(-2147483648),(2147483647);", 1);
        CHECK.fault(s, "member b(-2147483648);", 0, KEY, 8);
    }

    /** "All of them come, or none." */
    private static void allMembersOrNone() {
        CubeStore s = new CubeStore(16);
        CHECK.fine(s, "dimension a(x,y);measure m;member a (1,10);", 3);
        CHECK.fault(s, "member a (2,20),(3,30),(2,20);", 0, KEY, 23);
        CHECK.fault(s, "member a (2,20),(3,30)", 0, END, 22);
        CHECK.fault(s, "member a (2,20),(3,30) measure", 0, OTHER, 23);
        CHECK.fault(s, "member a (2,20),(3);", 0, MANY, 16);
        CHECK.fine(s, "member a (3,40);", 1);
        CHECK.fault(s, "member a (4,40);member a (5,40),(3,40);member a (6,40);", 1, KEY, 32);
        s.open();
        for (int value = 0; value <= 7; value++) {
            CHECK.due("member " + value, s.key(0, value), value == 1 || value == 3 || value == 4);
        }
    }

    private static CubeStore asked() {
        CubeStore s = Check.opened(32, "dimension a(k,l,m,n);dimension b(k,l,m,n);dimension c(k);measure s;measure t;"
            + "member a(1,1,1,1),(2,2,2,2);member b(1,1,1,1);member c(1);");
        s.stage(3);
        s.load();
        return s;
    }

    /** "item .. (at its first word)": the 25th. */
    private static void items() {
        CubeStore s = asked();
        String[] kinds = {"count(*)", "sum(s)", "min(t)", "max(s)", "grouping(a.k)", "a.k"};
        String text = "select " + Check.repeat("count(*)", 24, ",");
        CHECK.fine(s, text + ";", 1);
        CHECK.fine(s, "select " + Check.repeat("count(*)", 23, ",") + ";", 1);
        CHECK.fine(s, text + " group by a.k;", 1);
        asName(s, text + ",");
        for (String kind : kinds) {
            for (String behind : new String[] {"", "?", ";", ",", ".", "(", " 5"}) {
                String word = kind.replaceAll("[^a-z].*", "");
                CHECK.fault(s, text + "," + word + behind, 0, MANY, text.length() + 1);
            }
            CHECK.fault(s, text + "," + kind + " group by a.k;", 0, MANY, text.length() + 1);
        }
        CHECK.fault(s, text + ",d.k;", 0, NAME, text.length() + 1);
        CHECK.fault(s, text + ",s;", 0, NAME, text.length() + 1);
        CHECK.fault(s, text + ",", 0, END, text.length() + 1);
        CHECK.fault(s, text + ",*", 0, OTHER, text.length() + 1);
    }

    /** "comparison .. (at its first word)": the 61st. */
    private static void comparisons() {
        CubeStore s = asked();
        String text = "select count(*) where " + Check.repeat("a.k=1", 60, " and ");
        CHECK.fine(s, text + ";", 1);
        for (String join : new String[] {" and ", " or ", " and not ", " or (", " and not (("}) {
            asName(s, text + join);
            atOnce(s, text + join, "a", MANY);
            CHECK.fault(s, text + join + "a.k=1;", 0, MANY, (text + join).length());
            CHECK.fault(s, text + join + "d", 0, NAME, (text + join).length());
            CHECK.fault(s, text + join + "s", 0, NAME, (text + join).length());
        }
        CHECK.fault(s, text + " and", 0, END, text.length() + 4);
        CHECK.fault(s, text + " and ;", 0, OTHER, text.length() + 5);
        // A question's comparisons are counted anew for the next one.
        CHECK.fine(s, text + ";" + text + ";", 2);
    }

    /** "number of a list (at it)": the 41st. */
    private static void numbersOfAList() {
        CubeStore s = asked();
        for (String in : new String[] {"in", "not in"}) {
            String text = "select count(*) where a.k " + in + " (" + Check.repeat("#", 40, ",");
            CHECK.fine(s, text + ");", 1);
            int place = text.length() + 1;
            for (String behind : new String[] {"", "?", ")", ",", ");", " x"}) {
                CHECK.fault(s, text + ",40" + behind, 0, MANY, place);
                CHECK.fault(s, text + ",-2147483648" + behind, 0, MANY, place);
            }
            CHECK.fault(s, text + ",?", 0, SIGN, place);
            CHECK.fault(s, text + ",2147483648", 0, NUMBER, place);
            CHECK.fault(s, text + ",", 0, END, place);
            CHECK.fault(s, text + ",)", 0, OTHER, place);
            CHECK.fault(s, text + ",x", 0, OTHER, place);
            CHECK.fine(s, text + ") and a.k " + in + " (" + Check.repeat("#", 40, ",") + ");", 1);
            CHECK.fine(s, text.replace(",39", "") + ");", 1);
        }
        // Values of a member and columns of a group are lists, too, but have bounds of their own.
        CubeStore t = new CubeStore(16);
        CHECK.fine(t, "dimension a(x);member a" + Check.repeat("(#)", 41, ",") + ";", 2);
    }

    /** "open bracket (at it)": the 41st of a condition that is open at a time. */
    private static void brackets() {
        CubeStore s = asked();
        String text = "select count(*) where " + "(".repeat(40);
        CHECK.fine(s, text + "a.k=1" + ")".repeat(40) + ";", 1);
        CHECK.fine(s, text + "a.k in (1) and a.k not in (2)" + ")".repeat(40) + " group by rollup(a.k);", 1);
        CHECK.fine(s, text + "a.k=1" + ")".repeat(39) + " and (a.k=2) or (a.k=3)) or (a.k=4);", 1);
        for (String behind : new String[] {"", "?", "a.k=1", "(", ")", ";", "not"}) {
            CHECK.fault(s, text + "(" + behind, 0, MANY, text.length());
            CHECK.fault(s, text + "not (" + behind, 0, MANY, text.length() + 4);
            CHECK.fault(s, text + "a.k=1 or (" + behind, 0, MANY, text.length() + 9);
            CHECK.fault(s, text + "a.k=1) and (a.k=1 and (" + behind, 0, MANY, text.length() + 22);
        }
        asName(s, text);
        asName(s, text + "not ");
        CHECK.fault(s, text + "a.k=1" + ")".repeat(39) + ";", 0, OTHER, text.length() + 44);
        CHECK.fault(s, text + "a.k=1" + ")".repeat(41) + ";", 0, OTHER, text.length() + 45);
        CHECK.fault(s, text + "a.k=1" + ")".repeat(39), 0, END, text.length() + 44);
    }

    /** "group column (at its first word)": the ninth, in any groups. */
    private static void groupColumns() {
        CubeStore s = asked();
        String[] eights = {"a.k,a.l,a.m,a.n,b.k,b.l,b.m,b.n", "rollup(a.k,a.l,a.m),a.n,rollup(b.k,b.l),b.m,b.n",
            "a.k,a.l,a.m,a.n,b.k,cube(b.l,b.m,b.n)"};
        for (String eight : eights) {
            String text = "select count(*) group by " + eight;
            CHECK.fine(s, text + ";", 1);
            asName(s, text + ",");
            for (String before : new String[] {",", ",rollup(", ",cube("}) {
                atOnce(s, text + before, "c", MANY);
                atOnce(s, text + before, "a", MANY);
                CHECK.fault(s, text + before + "a.k", 0, MANY, (text + before).length());
                CHECK.fault(s, text + before + "d", 0, NAME, (text + before).length());
            }
        }
        String inside = "select count(*) group by rollup(" + eights[0];
        CHECK.fine(s, inside + ");", 1);
        asName(s, inside + ",");
        atOnce(s, inside + ",", "c", MANY);
        atOnce(s, inside + ",", "a", MANY);
        CHECK.fine(s, "select count(*) group by a.k,a.l,a.m,a.n,b.k,b.l,b.m;", 1);
    }

    /** "more grouping sets than there may be (at the word group, asked when the group was read with which there are)". */
    private static void groupingSets() {
        CubeStore s = asked();
        String head = "select count(*) group by ";
        String[] fine = {"cube(a.k,a.l,a.m,a.n,b.k)", "cube(a.k,a.l,a.m,a.n),rollup(b.k)", "rollup(a.k),rollup(a.l),rollup(a.m),cube(a.n,b.k)",
            "rollup(a.k,a.l,a.m,a.n,b.k,b.l,b.m),cube(b.n)", "cube(a.k,a.l),rollup(a.m,a.n,b.k,b.l,b.m,b.n)",
            "cube(a.k),rollup(a.l,a.m),rollup(a.n,b.k,b.l,b.m)", "rollup(a.k,a.l),rollup(a.m,a.n),rollup(b.k,b.l)"};
        int[] sets = {32, 32, 32, 16, 28, 30, 27};
        for (int i = 0; i < fine.length; i++) {
            CHECK.fine(s, head + fine[i] + ";", 1);
            CHECK.due("a row for each set of " + fine[i], s.rows(), sets[i]);
        }
        // 64, 36, 40, 64, 64 and 256 sets; there is no way to 33, 34 or 35 of them.
        String[] over = {"cube(a.k,a.l,a.m,a.n,b.k,b.l)", "rollup(a.k,a.l),rollup(a.m,a.n),cube(b.k,b.l)",
            "rollup(a.k,a.l,a.m,a.n),rollup(b.k,b.l,b.m),cube(b.n)", "cube(a.k,a.l,a.m,a.n,b.k),cube(b.l)",
            "cube(a.k,a.l,a.m,a.n,b.k),b.n,rollup(b.l)", "cube(a.k,a.l,a.m,a.n,b.k,b.l,b.m,b.n)"};
        for (String groups : over) {
            for (String behind : new String[] {";", "", "?", " 5", ",", ",?", " 99999999999"}) {
                CHECK.fault(s, head + groups + behind, 0, MANY, 16);
                CHECK.fault(s, "select count(*) where a.k=1  group by " + groups + behind, 0, MANY, 29);
            }
            String open = groups.substring(0, groups.length() - 1);
            CHECK.fault(s, head + open, 0, END, (head + open).length());
            CHECK.fault(s, head + open + "?", 0, SIGN, (head + open).length());
            CHECK.fault(s, head + open + ";", 0, OTHER, (head + open).length());
        }
        // Items are looked at later; a column that is there twice earlier.
        CHECK.fault(s, "select a.k, c.k group by " + over[0], 0, MANY, 16);
        CHECK.fault(s, head + "cube(a.k,a.l,a.m,a.n,b.k,b.k)", 0, TWICE, 50);
    }

    /** "TWICE: a group column that was there (at its first word, asked when it was read)." */
    private static void twice() {
        CubeStore s = asked();
        String head = "select count(*) group by ";
        for (String before : new String[] {"a.k, ", "a.k,b.k,", "rollup(a.k),", "cube(b.k,a.k),", "rollup(a.k,", "cube(b.l,a.k,",
            "a.k,cube(", "b.l,a.k, rollup ( "}) {
            String text = head + before;
            for (String behind : new String[] {"", "?", ";", ",", ")", ".", " 5", ");"}) {
                CHECK.fault(s, text + "a.k" + behind, 0, TWICE, text.length());
                CHECK.fault(s, text + "a . k" + behind, 0, TWICE, text.length());
            }
            CHECK.fault(s, text + "a", 0, END, text.length() + 1);
            CHECK.fault(s, text + "a?", 0, SIGN, text.length() + 1);
            CHECK.fault(s, text + "a.", 0, END, text.length() + 2);
            CHECK.fault(s, text + "a.q", 0, NAME, text.length() + 2);
            CHECK.fault(s, text + "a.k1", 0, NAME, text.length() + 2);
        }
        CHECK.fine(s, head + "a.k,b.k,c.k,a.l;", 1);
        CHECK.fault(s, "select b.k group by a.k,a.k;", 0, TWICE, 24);
    }

    /** "GROUP: an item that is a column, or grouping of one, that is no group column (the first such item, at its
     * beginning; asked at the ;)." */
    private static void strayItems() {
        CubeStore s = asked();
        CHECK.fault(s, "select a.k;", 0, GROUP, 7);
        CHECK.fault(s, "select grouping(a.k);", 0, GROUP, 7);
        CHECK.fault(s, "select count(*), a.k, b.k;", 0, GROUP, 17);
        CHECK.fault(s, "select a.l, b.k, grouping ( c.k ) group by a.l, b.k;", 0, GROUP, 17);
        CHECK.fault(s, "select a.l, grouping(b.k), c.k group by a.l;", 0, GROUP, 12);
        CHECK.fault(s, "select a.l, a.m group by a.l, a.n;", 0, GROUP, 12);
        CHECK.fault(s, "select a.k where a.k = 1 group by cube(a.l, a.m);", 0, GROUP, 7);
        CHECK.fine(s, "select a.k, grouping(a.k), b.l group by rollup(b.l), cube(a.k);", 1);
        CHECK.fault(s, "select a.k", 0, END, 10);
        CHECK.fault(s, "select a.k?", 0, SIGN, 10);
        CHECK.fault(s, "select a.k where", 0, END, 16);
        CHECK.fault(s, "select a.k group by b.k)", 0, OTHER, 23);
        CHECK.fault(s, "select a.k;?", 0, GROUP, 7);
        CHECK.fault(s, "select count(*);select a.k;select count(*);", 1, GROUP, 23);
        CHECK.due("the answer before it", s.cell(0, 0), 3);
    }

    /** "STATE: a statement that tells of the catalog when the store is not NEW, or a question when it is NEW (at its
     * first word)." */
    private static void states() {
        CubeStore s = new CubeStore(16);
        for (String text : new String[] {"select count(*);", "select", "select?", "select 99999999999", "select select"}) {
            CHECK.fault(s, "  " + text, 0, STATE, 2);
        }
        CHECK.fault(s, "measure k;select count(*);measure l;", 1, STATE, 10);
        CHECK.fine(s, "dimension a(x);measure m;member a(1);", 3);
        CHECK.fault(s, "select count(*);", 0, STATE, 0);
        s.open();
        String[] texts = {"dimension b(x);", "dimension", "dimension?", "dimension a(x);", "measure", "measure l;", "measure m;", "measure by;",
            "member a(2);", "member", "member q(1);", "member a(1,2);"};
        for (String text : texts) {
            CHECK.fault(s, "\n" + text, 0, STATE, 1);
            CHECK.fault(s, "select count(*);" + text, 1, STATE, 16);
        }
        s.recover();
        CHECK.fault(s, "measure l;", 0, STATE, 0);
        CHECK.fine(s, "select count(*);", 1);
        CubeStore t = new CubeStore(16);
        t.crash(0);
        t.recover();
        CHECK.fault(t, "select count(*);", 0, STATE, 0);
        CHECK.fine(t, "measure l;", 1);
    }

    /** "ROOM: the answer would have more than 4000 rows (at the word select)." */
    private static void room() {
        CubeStore s = Check.opened(64, "dimension a(x);dimension b(p,q,r,s);measure m;member a" + Check.repeat("(#)", 1000, ",")
            + ";member b(1,1,1,1);");
        for (int i = 0; i < 2; i++) {
            s.spread(4096, i);
            s.spread(4096, i + 10);
            s.load();
        }
        String many = "select a.x group by rollup(a.x,b.p,b.q,b.r)";
        CHECK.fault(s, many + ";", 0, ROOM, 0);
        CHECK.due("no answer", s.rows(), -1);
        CHECK.fault(s, "select count(*), count(*); " + many + ";select count(*);", 1, ROOM, 27);
        CHECK.due("the answer before it stays", s.rows(), 1);
        CHECK.due("with its items", s.cell(0, 1), 16384);
        CHECK.due("and its table", s.served(), -1);
        CHECK.fault(s, many + ";?", 0, ROOM, 0);
        CHECK.fault(s, many + "?", 0, SIGN, many.length());
        CHECK.fault(s, many, 0, END, many.length());
        CHECK.fault(s, many.replace("a.x g", "a.x, b.s g") + ";", 0, GROUP, 12);
        CHECK.fine(s, many.replace(" group", " where a.x<>0 group") + ";", 1);
        CHECK.due("3997 rows", s.rows(), 3997);
    }

    /** "The first one as the text is read counts; then nothing more is carried out (what was before it stays)." */
    private static void firstFaultCounts() {
        CubeStore s = new CubeStore(16);
        CHECK.fault(s, "measure a;dimension b(x);measure ?;measure c;select", 2, SIGN, 33);
        CHECK.fault(s, "measure c;measure a;measure ?;", 1, TAKEN, 18);
        CHECK.fault(s, "member b(1);member b(2),(1);member b(3);?", 1, KEY, 24);
        CHECK.fine(s, "member b(3);", 1);
        s.open();
        CHECK.due("1 is there", s.key(0, 1), true);
        CHECK.due("2 is not", s.key(0, 2), false);
        CHECK.due("two measures", s.amount(1, 5), 0);
        CHECK.argument("no third one", () -> s.amount(2, 5));
        CHECK.fault(s, "select a.x;select ?", 0, NAME, 7);
        CHECK.fine(s, "select count(*);select sum(a);", 2);
        CHECK.due("a fault is that of the last text alone", s.fault(0), 0);
        CHECK.due("its place, too", s.fault(1), -1);
    }
}
