import java.util.Set;

/**
 * SIGN, NUMBER, END, OTHER and NAME at each place where a word, number or sign is read: behind each beginning of a
 * statement all signs, all reserved words, a number, names of each kind and the end are tried, and what may not stand
 * there must be the fault that the document says, there. "Of a word, number or sign SIGN and NUMBER are asked first,
 * then OTHER, then NAME."
 */
public final class FaultPlacesTest {
    private static final Check CHECK = new Check("FaultPlacesTest");
    private static final String CATALOG = "dimension a(x,y);dimension b(z);measure m;measure k;member a(1,10),(2,20);member b(5);";
    private static final String[] SIGNS = {"(", ")", ",", ";", ".", "*", "=", "<", ">", "<=", ">=", "<>"};
    private static final String LONG_40 = "a2345678901234567890123456789012345678_0";
    private static final String LONG_41 = LONG_40 + "1";
    private static final String[] NAMES = {"a", "b", "x", "y", "z", "m", "k", "fresh", "A", "X", "M", "Select", "wher", "groups",
        "in_", "by1", LONG_40};
    private static final String DIMENSIONS = "a b";
    private static final String LEVELS = "x y";
    private static final String MEASURES = "m k";
    /** A new name: each that none of the catalog has; of a new dimension's levels those of other dimensions, too. */
    private static final String FRESH = "x y z fresh A X M Select wher groups in_ by1 " + LONG_40;
    private static final String FRESH_LEVEL = "a b m k " + FRESH;

    private static final int NEW = 0;
    private static final int OPEN = 1;
    private static CubeStore store;
    private static int state;

    public static void main(String[] args) {
        CHECK.due("a word of 40", LONG_40.length(), 40);
        statementBegins(NEW);
        statementBegins(OPEN);
        tellCatalog();
        askItems();
        askConditions();
        askGroups();
        CHECK.end();
    }

    private static void use(int wanted) {
        state = wanted;
        store = new CubeStore(16);
        Check.run(store, CATALOG);
        if (wanted == OPEN) {
            store.open();
        }
    }

    /** Behind a beginning only these signs and words may stand, and no name. */
    private static void only(String beginning, String allowed) {
        at(beginning, allowed, "-", 4);
    }

    /** Behind a beginning one of these names must stand, or one of these signs and words. */
    private static void name(String beginning, String names, String allowed) {
        at(beginning, allowed, names, 5);
    }

    /** Behind a beginning a new name must stand: all but these are TAKEN. */
    private static void fresh(String beginning, String names) {
        at(beginning, "-", names, 6);
    }

    private static void at(String beginning, String allowed, String names, int nameFault) {
        Set<String> may = Set.of(allowed.split(" "));
        Set<String> called = Set.of(names.split(" "));
        String text = beginning + " ";
        int place = text.length();
        due(text + "?", 1, place);
        due(text + "-", 1, place);
        due(text + "_a", 1, place);
        due(text + "99999999999", 2, place);
        due(text + "-2147483649", 2, place);
        due(text, 3, place);
        due(beginning, 3, beginning.length());
        for (String sign : SIGNS) {
            tried(text, sign, may.contains(sign), 4);
        }
        tried(text, "3", may.contains("3"), 4);
        tried(text, "-2147483648", may.contains("3"), 4);
        for (String word : ModelParser.RESERVED) {
            tried(text, word, may.contains(word), Math.min(nameFault, 5));
        }
        tried(text, LONG_41, false, Math.min(nameFault, 5));
        for (String word : NAMES) {
            tried(text, word, called.contains(word), nameFault);
        }
    }

    private static void due(String text, int kind, int place) {
        CHECK.fault(store, text, 0, kind, place);
    }

    /** What may stand there has no fault there; its statement goes on, or ends. */
    private static void tried(String text, String what, boolean mayStand, int kind) {
        if (!mayStand) {
            due(text + what, kind, text.length());
            due(text + what + " ?", kind, text.length());
            return;
        }
        Check.run(store, text + what);
        CHECK.due("fault at <" + what + "> behind <" + text + ">", store.fault(1) == text.length(), false);
        if (state == NEW) {
            store.recover();
            Check.run(store, CATALOG);
        }
    }

    private static void tellCatalog() {
        use(NEW);
        fresh("dimension", FRESH);
        only("dimension c", "(");
        fresh("dimension c(", FRESH_LEVEL);
        only("dimension c(q", ", )");
        fresh("dimension c(q,", FRESH_LEVEL);
        fresh("dimension c(x,M,k,", "a b y z m fresh A X Select wher groups in_ by1 " + LONG_40);
        only("dimension c(q,r", ", )");
        only("dimension c(q,r,s,t", ", )");
        only("dimension c(q)", ";");
        fresh("measure", FRESH);
        only("measure c", ";");
        name("member", DIMENSIONS, "-");
        only("member a", "(");
        only("member a(", "3");
        only("member a(7", ", )");
        only("member a(7,", "3");
        only("member a(7,10", ", )");
        only("member a(7,10)", ", ;");
        only("member a(7,10),", "(");
        only("member a(7,10),(", "3");
        only("member a(7,10),(8,10)", ", ;");
    }

    /** The end of the text is no fault there; words that begin no statement are OTHER, reserved or not. */
    private static void statementBegins(int wanted) {
        use(wanted);
        due("?", 1, 0);
        due("99999999999", 2, 0);
        due("", 0, -1);
        due(" \t\n\r", 0, -1);
        for (String sign : SIGNS) {
            due(" " + sign, 4, 1);
        }
        due(" 3", 4, 1);
        due(" " + LONG_41, 4, 1);
        for (String word : NAMES) {
            due(" " + word, 4, 1);
        }
        for (String word : ModelParser.RESERVED) {
            boolean begins = Set.of("dimension", "measure", "member", "select").contains(word);
            boolean goesOn = begins && word.equals("select") == (wanted == OPEN);
            due(" " + word, goesOn ? 3 : begins ? 8 : 4, goesOn ? 1 + word.length() : 1);
            due(" " + word + "?", goesOn ? 1 : begins ? 8 : 4, goesOn ? 1 + word.length() : 1);
        }
    }

    private static void askItems() {
        use(OPEN);
        String items = "sum min max count grouping";
        String behind = ", where group ;";
        name("select", DIMENSIONS, items);
        only("select a", ".");
        name("select a.", LEVELS, "-");
        only("select a.x", behind);
        name("select a.x,", DIMENSIONS, items);
        for (String of : new String[] {"sum", "min", "max"}) {
            only("select " + of, "(");
            name("select " + of + "(", MEASURES, "-");
            only("select " + of + "(m", ")");
            only("select " + of + "(m)", behind);
            name("select " + of + "(m),", DIMENSIONS, items);
        }
        only("select count", "(");
        only("select count(", "*");
        only("select count(*", ")");
        only("select count(*)", behind);
        only("select grouping", "(");
        name("select grouping(", DIMENSIONS, "-");
        only("select grouping(a", ".");
        name("select grouping(a.", LEVELS, "-");
        only("select grouping(a.x", ")");
        only("select grouping(a.x)", behind);
    }

    private static void askConditions() {
        use(OPEN);
        String head = "select count(*) where ";
        String behind = "and or group ;";
        for (String before : new String[] {"", "not ", "not not ", "(", "((", "a.x=1 and ", "a.x=1 or ", "not (a.x=1 and ",
            "(a.x=1) or not "}) {
            name(head + before, DIMENSIONS, "not (");
        }
        only(head + "a", ".");
        name(head + "a.", LEVELS, "-");
        only(head + "a.x", "= <> < <= > >= between in not");
        for (String sign : new String[] {"=", "<>", "<", "<=", ">", ">="}) {
            only(head + "a.x" + sign, "3");
            only(head + "a.x" + sign + "3", behind);
        }
        only(head + "a.x between", "3");
        only(head + "a.x between 1", "and");
        only(head + "a.x between 1 and", "3");
        only(head + "a.x between 1 and 2", behind);
        only(head + "a.x not", "in");
        for (String in : new String[] {"in", "not in"}) {
            only(head + "a.x " + in, "(");
            only(head + "a.x " + in + "(", "3");
            only(head + "a.x " + in + "(1", ", )");
            only(head + "a.x " + in + "(1,", "3");
            only(head + "a.x " + in + "(1,2)", behind);
            only(head + "(a.x " + in + "(1)", "and or )");
        }
        only(head + "(a.x=1", "and or )");
        only(head + "(a.x=1)", behind);
        only(head + "((a.x=1)", "and or )");
        only(head + "(a.x=1 and (a.x=2 or a.x=3)", "and or )");
        only(head + "not (a.x=1)", behind);
        only(head + "a.x=1 and not a.y=2", behind);
    }

    private static void askGroups() {
        use(OPEN);
        for (String head : new String[] {"select count(*) group", "select count(*) where a.x=1 group", "select a.x group"}) {
            only(head, "by");
            name(head + " by", DIMENSIONS, "rollup cube");
        }
        String head = "select count(*) group by ";
        only(head + "a", ".");
        name(head + "a.", LEVELS, "-");
        only(head + "a.x", ", ;");
        name(head + "a.x,", DIMENSIONS, "rollup cube");
        for (String of : new String[] {"rollup", "cube"}) {
            only(head + of, "(");
            name(head + of + "(", DIMENSIONS, "-");
            only(head + of + "(a", ".");
            name(head + of + "(a.", LEVELS, "-");
            only(head + of + "(a.x", ", )");
            name(head + of + "(a.x,", DIMENSIONS, "-");
            only(head + of + "(a.x,a.y", ", )");
            only(head + of + "(a.x,a.y)", ", ;");
            name(head + of + "(a.x,a.y),", DIMENSIONS, "rollup cube");
        }
    }
}
