import java.util.ArrayList;
import java.util.List;

/** A CubeStore and the Model side by side: each call is made on both, and what they answer or throw is compared. */
final class Twin {
    interface Call {
        long get();
    }

    final CubeStore store;
    final Model model;
    final List<String> log = new ArrayList<>();
    /** The first call on which the two differ; null as long as there is none. */
    String difference;

    Twin(int blocks) {
        store = new CubeStore(blocks);
        model = new Model(blocks);
        log.add("new CubeStore(" + blocks + ")");
    }

    private static String outcome(Call call) {
        try {
            return Long.toString(call.get());
        } catch (IllegalArgumentException | IllegalStateException e) {
            return "throws " + e.getClass().getSimpleName();
        } catch (RuntimeException e) {
            return "throws the unforeseen " + e;
        }
    }

    /** Answers what the model answers. */
    String both(String name, Call onStore, Call onModel) {
        String due = outcome(onModel);
        String got = outcome(onStore);
        log.add(name + " -> " + got);
        if (!due.equals(got) && difference == null) {
            difference = name + " answered " + got + ", due is " + due;
        }
        return due;
    }

    void text(String text) {
        log.add("TEXT " + text);
        int[] five = new int[5];
        int bytes = (text.length() + 19) / 20 * 20;
        for (int i = 0; i < bytes; i += 20) {
            for (int k = 0; k < 5; k++) {
                five[k] = 0;
                for (int b = 0; b < 4; b++) {
                    int at = i + 4 * k + b;
                    five[k] = five[k] << 8 | (at < text.length() ? text.charAt(at) & 255 : 32);
                }
            }
            feed(five.clone());
        }
        trim(bytes - text.length());
    }

    void feed(int... f) {
        both("feed", () -> store.feed(f[0], f[1], f[2], f[3], f[4]), () -> model.feed(f));
    }

    void trim(int n) {
        both("trim(" + n + ")", () -> store.trim(n), () -> model.trim(n));
    }

    /** Runs the text and compares its fault and the whole answer. */
    void run() {
        both("run()", store::run, model::run);
        fault(0);
        fault(1);
        answer();
    }

    void answer() {
        both("rows()", store::rows, model::rows);
        both("served()", store::served, model::served);
        if (model.answer == null) {
            cell(0, 0);
            return;
        }
        for (int r = 0; r < model.answer.rows.size(); r++) {
            for (int i = 0; i < model.answer.items; i++) {
                cell(r, i);
            }
        }
        cell(model.answer.rows.size(), 0);
        cell(0, model.answer.items);
        cell(-1, 0);
        cell(0, -1);
    }

    void cell(int r, int i) {
        both("cell(" + r + ", " + i + ")", () -> store.cell(r, i), () -> model.cell(r, i));
        both("isBlank(" + r + ", " + i + ")", () -> store.isBlank(r, i) ? 1 : 0, () -> model.isBlank(r, i) ? 1 : 0);
    }

    void fault(int what) {
        both("fault(" + what + ")", () -> store.fault(what), () -> model.fault(what));
    }

    String open() {
        return both("open()", store::open, model::open);
    }

    void key(int d, int v) {
        both("key(" + d + ", " + v + ")", () -> store.key(d, v) ? 1 : 0, () -> model.key(d, v) ? 1 : 0);
    }

    void amount(int m, long v) {
        both("amount(" + m + ", " + v + ")", () -> store.amount(m, v), () -> model.amount(m, v));
    }

    void stage(int n) {
        both("stage(" + n + ")", () -> store.stage(n), () -> model.stage(n));
    }

    void spread(int n, long seed) {
        both("spread(" + n + ", " + seed + ")", () -> store.spread(n, seed), () -> model.spread(n, seed));
    }

    void drop() {
        both("drop()", store::drop, model::drop);
    }

    String load() {
        return both("load()", store::load, model::load);
    }

    String choose(int k) {
        return both("choose(" + k + ")", () -> store.choose(k), () -> model.choose(k));
    }

    String settle() {
        return both("settle()", store::settle, model::settle);
    }

    void crash(int n) {
        both("crash(" + n + ")", () -> {
            store.crash(n);
            return 0;
        }, () -> {
            model.crash(n);
            return 0;
        });
    }

    void recover() {
        both("recover()", store::recover, model::recover);
    }

    void audit() {
        both("audit()", store::audit, model::audit);
    }

    void view(int i, int d) {
        both("view(" + i + ", " + d + ")", () -> store.view(i, d), () -> model.view(i, d));
    }

    void count(int what) {
        both("count(" + what + ")", () -> store.count(what), () -> model.count(what));
    }

    /** All that can be asked without changing anything. */
    void look() {
        both("state()", store::state, model::state);
        both("writes()", store::writes, model::writes);
        for (int what = -1; what <= 7; what++) {
            count(what);
        }
        for (int i = 0; i <= model.now.views.size(); i++) {
            for (int d = -1; d <= model.now.dims.size(); d++) {
                view(i, d);
            }
        }
        view(-1, 0);
    }
}
