/** Counts answers that are not the ones that are due, and says which. */
final class Check {
    interface Call {
        long get();
    }

    interface Deed {
        void go();
    }

    /** Two dimensions with five members each, and two measures: the catalog of most tests. */
    static final String SHOPS = "dimension shop(store,city,land);dimension day(day,month);measure price;measure n;"
        + "member shop(1,10,100),(2,10,100),(3,11,100),(4,20,200),(5,20,200);"
        + "member day(1,1),(2,1),(3,1),(31,2),(32,2);";

    private static final int MOST_SAID = 30;
    private static final int MOST_CHARS = 250;
    private final String title;
    private int asked;
    private int wrong;

    Check(String title) {
        this.title = title;
    }

    void due(String what, long got, long want) {
        asked++;
        if (got != want) {
            say(what + " answered " + got + ", due is " + want);
        }
    }

    void due(String what, boolean got, boolean want) {
        due(what, got ? 1 : 0, want ? 1 : 0);
    }

    void due(String what, Call call, long want) {
        long got;
        try {
            got = call.get();
        } catch (RuntimeException e) {
            asked++;
            say(what + " threw " + e + ", due is " + want);
            return;
        }
        due(what, got, want);
    }

    void argument(String what, Deed deed) {
        thrown(what, deed, IllegalArgumentException.class);
    }

    void state(String what, Deed deed) {
        thrown(what, deed, IllegalStateException.class);
    }

    private void thrown(String what, Deed deed, Class<? extends RuntimeException> due) {
        asked++;
        try {
            deed.go();
            say(what + " threw nothing, due is " + due.getSimpleName());
        } catch (RuntimeException e) {
            if (e.getClass() != due) {
                say(what + " threw " + e + ", due is " + due.getSimpleName());
            }
        }
    }

    private void say(String text) {
        wrong++;
        if (wrong <= MOST_SAID) {
            int most = Math.min(text.length(), MOST_CHARS);
            System.out.println(title + ": .." + text.substring(text.length() - most));
        }
    }

    void end() {
        System.out.println(title + ": " + asked + " asked, " + wrong + " wrong");
        System.exit(wrong == 0 ? 0 : 1);
    }

    /** Runs a text: how many statements were carried out. */
    static int run(CubeStore store, String text) {
        tell(store, text);
        return store.run();
    }

    static void tell(CubeStore store, String text) {
        int whole = (text.length() + 19) / 20 * 20;
        for (int i = 0; i < whole; i += 20) {
            int[] five = new int[5];
            for (int b = 0; b < 20; b++) {
                int c = i + b < text.length() ? text.charAt(i + b) & 255 : ' ';
                five[b / 4] = five[b / 4] << 8 | c;
            }
            store.feed(five[0], five[1], five[2], five[3], five[4]);
        }
        store.trim(whole - text.length());
    }

    /** A text that must have a fault of a kind at a place after some statements. */
    void fault(CubeStore store, String text, int done, int kind, int place) {
        due("run of <" + text + ">", run(store, text), done);
        due("fault(0) of <" + text + ">", store.fault(0), kind);
        due("fault(1) of <" + text + ">", store.fault(1), place);
    }

    /** A text without a fault. */
    void fine(CubeStore store, String text, int done) {
        fault(store, text, done, 0, -1);
    }

    static CubeStore opened(int blocks, String catalog) {
        CubeStore store = new CubeStore(blocks);
        run(store, catalog);
        store.open();
        return store;
    }

    /** Stages facts of the SHOPS catalog: four numbers each, store, day, price, n. */
    static void stage(CubeStore store, long... facts) {
        for (int i = 0; i < facts.length; i += 4) {
            store.key(0, (int) facts[i]);
            store.key(1, (int) facts[i + 1]);
            store.amount(0, facts[i + 2]);
            store.amount(1, facts[i + 3]);
            store.stage(1);
        }
    }

    /** A question's rows as text: cells behind one another, - for a blank one, / between rows. */
    static String answer(CubeStore store, String question, int items) {
        run(store, question);
        if (store.fault(0) != 0) {
            return "fault " + store.fault(0) + " at " + store.fault(1);
        }
        StringBuilder all = new StringBuilder();
        for (int r = 0; r < store.rows(); r++) {
            all.append(r == 0 ? "" : " / ");
            for (int i = 0; i < items; i++) {
                all.append(i == 0 ? "" : " ").append(store.isBlank(r, i) ? "-" : Long.toString(store.cell(r, i)));
            }
        }
        return all.toString();
    }

    void answers(CubeStore store, String question, int items, String want) {
        asked++;
        String got = answer(store, question, items);
        if (!got.equals(want)) {
            say("<" + question + "> answered " + got + ", due is " + want);
        }
    }

    static String repeat(String what, int times, String between) {
        StringBuilder all = new StringBuilder();
        for (int i = 0; i < times; i++) {
            all.append(i == 0 ? "" : between).append(what.replace("#", Integer.toString(i)));
        }
        return all.toString();
    }
}
