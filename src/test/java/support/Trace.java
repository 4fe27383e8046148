/** What a store answers, written down, so that two stores that must be alike can be held against one another. */
final class Trace {
    interface Call {
        Object get();
    }

    private final CubeStore store;
    private final StringBuilder told = new StringBuilder();

    private Trace(CubeStore store) {
        this.store = store;
    }

    /** All that can be asked without a change. */
    static String now(CubeStore store) {
        Trace trace = new Trace(store);
        trace.look();
        return trace.told.toString();
    }

    /** What is there for good: no writes(), text, batch or fault, which power and refused changes may touch. */
    static String lasting(CubeStore store, String question) {
        Trace trace = new Trace(store);
        trace.add("state", store::state);
        for (int what = 0; what <= 4; what++) {
            int asked = what;
            trace.add("count", () -> store.count(asked));
        }
        trace.views();
        Check.run(store, question);
        trace.add("fault", () -> store.fault(0));
        trace.answer();
        trace.add("audit", store::audit);
        return trace.told.toString();
    }

    /** What a store says and does from now on, up to the end of its life: it is of no use behind it. */
    static String future(CubeStore store, String question) {
        Trace trace = new Trace(store);
        trace.look();
        trace.add("run", store::run);
        trace.look();
        trace.add("open", store::open);
        for (int i = 0; i < 3; i++) {
            int measure = i;
            trace.add("amount", () -> store.amount(measure, 1000 + measure));
        }
        trace.add("stage", () -> store.stage(1));
        trace.changes(question);
        trace.add("recover", store::recover);
        trace.look();
        trace.changes(question);
        trace.endOfLife();
        return trace.told.toString();
    }

    private void changes(String question) {
        for (int i = 0; i < 3; i++) {
            add("load", store::load);
            add("choose", () -> store.choose(3));
            ask(question);
            add("settle", store::settle);
            ask(question);
            add("stage", () -> store.stage(2));
        }
        add("audit", store::audit);
        add("drop", store::drop);
        look();
    }

    /** How many facts may still be staged, and how many choices are left. */
    private void endOfLife() {
        for (int n = 1000; n >= 1; n -= n > 100 ? 100 : n > 10 ? 10 : 1) {
            int staged = n;
            for (int i = 0; i < 21; i++) {
                add("", () -> store.stage(staged));
                add("", store::drop);
            }
        }
        for (int i = 0; i < 101; i++) {
            add("", () -> store.choose(0));
        }
    }

    private void ask(String question) {
        add("ask", () -> Check.run(store, question));
        answer();
    }

    private void look() {
        add("state", store::state);
        add("writes", store::writes);
        for (int what = 0; what <= 6; what++) {
            int asked = what;
            add("count", () -> store.count(asked));
        }
        add("fault", () -> store.fault(0));
        add("place", () -> store.fault(1));
        views();
        answer();
    }

    private void views() {
        for (int i = 0; i <= 16; i++) {
            for (int d = 0; d <= 2; d++) {
                int view = i;
                int dimension = d;
                add("view", () -> store.view(view, dimension));
            }
        }
    }

    private void answer() {
        add("rows", store::rows);
        add("served", store::served);
        boolean isRow = true;
        for (int r = 0; isRow; r++) {
            isRow = false;
            for (int i = 0; cell(r, i); i++) {
                isRow = true;
            }
        }
    }

    private boolean cell(int r, int i) {
        String before = add("cell", () -> store.cell(r, i));
        add("blank", () -> store.isBlank(r, i));
        return !before.startsWith("!");
    }

    private String add(String name, Call call) {
        String outcome;
        try {
            outcome = String.valueOf(call.get());
        } catch (RuntimeException e) {
            outcome = "!" + e.getClass().getSimpleName();
        }
        told.append(name).append(' ').append(outcome).append('\n');
        return outcome;
    }
}
