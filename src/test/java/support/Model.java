import java.math.BigInteger;
import java.util.ArrayList;
import java.util.Arrays;
import java.util.Comparator;
import java.util.HashMap;
import java.util.HashSet;
import java.util.List;
import java.util.Map;
import java.util.Set;
import java.util.TreeMap;

/**
 * The document told a second time, as plainly as can be: facts in lists, no bytes on any disk, weights by
 * the formulas, answers always from the facts. The tests hold CubeStore against it.
 */
final class Model {
    static final class Dim {
        String name;
        List<String> levels = new ArrayList<>();
        List<int[]> members = new ArrayList<>();

        /** All values at a level, in order. */
        List<Integer> valuesAt(int level) {
            return members.stream().map(m -> m[level]).distinct().sorted().toList();
        }
    }

    /** A fact: values at all levels of its member of each dimension, and amounts. */
    record Fact(int[][] members, long[] amounts) { }

    static final class Extent {
        char kind;
        int start;
        int length;
        Extent(char kind, int start, int length) {
            this.kind = kind;
            this.start = start;
            this.length = length;
        }
    }

    /** What the disk tells. */
    static final class Ledger {
        List<Dim> dims = new ArrayList<>();
        List<String> measures = new ArrayList<>();
        List<Extent> extents = new ArrayList<>();
        List<Fact> facts = new ArrayList<>();
        List<int[]> views = new ArrayList<>();
        /** The facts of each part of the chosen views. */
        List<List<Fact>> viewParts = new ArrayList<>();
        int loads;

        Ledger copy() {
            Ledger c = new Ledger();
            c.dims.addAll(dims);
            c.measures.addAll(measures);
            c.extents.addAll(extents);
            c.facts.addAll(facts);
            c.views.addAll(views);
            c.viewParts.addAll(viewParts);
            c.loads = loads;
            return c;
        }
    }

    static final class Answer {
        List<Object[]> rows = new ArrayList<>();
        int items;
        int served;
    }

    final int blocks;
    int state;
    int fuse = -1;
    int writes;
    int staged;
    int changes;
    Ledger saved;
    Ledger now = new Ledger();
    byte[] text = new byte[0];
    List<Fact> batch = new ArrayList<>();
    int[] making;
    long[] makingAmounts;
    int faultKind;
    int faultPlace = -1;
    Answer answer;

    Model(int blocks) {
        this.blocks = Math.max(16, Math.min(512, blocks));
    }

    static void arg(boolean ok) {
        if (!ok) {
            throw new IllegalArgumentException();
        }
    }

    static void st(boolean ok) {
        if (!ok) {
            throw new IllegalStateException();
        }
    }

    int feed(int... five) {
        st(state != 2 && text.length + 20 <= 65536);
        byte[] longer = Arrays.copyOf(text, text.length + 20);
        for (int i = 0; i < 20; i++) {
            longer[text.length + i] = (byte) (five[i / 4] >>> 24 - i % 4 * 8);
        }
        text = longer;
        return text.length;
    }

    int trim(int n) {
        arg(n >= 0 && n <= 20 && n <= text.length);
        st(state != 2);
        text = Arrays.copyOf(text, text.length - n);
        return text.length;
    }

    int run() {
        st(state != 2);
        answer = null;
        faultKind = 0;
        faultPlace = -1;
        ModelParser parser = new ModelParser(this, text);
        try {
            parser.runAll();
        } catch (ModelParser.Fault f) {
            faultKind = f.kind;
            faultPlace = f.place;
        }
        text = new byte[0];
        return parser.done;
    }

    int fault(int what) {
        arg(what == 0 || what == 1);
        st(state != 2);
        return what == 0 ? faultKind : faultPlace;
    }

    int open() {
        st(state == 0 && !now.dims.isEmpty() && !now.measures.isEmpty());
        for (Dim d : now.dims) {
            st(!d.members.isEmpty());
        }
        for (Dim d : now.dims) {
            d.members.sort(Comparator.comparingInt(m -> m[0]));
        }
        long weight = 8;
        for (Dim d : now.dims) {
            weight += 4 + d.name.length();
            for (String level : d.levels) {
                weight += 1 + level.length() + 4L * d.members.size();
            }
        }
        for (String measure : now.measures) {
            weight += 1 + measure.length();
        }
        Extent e = room('k', weight);
        if (e == null) {
            return -2;
        }
        now.extents.add(e);
        if (!commit(e.length)) {
            return -3;
        }
        state = 1;
        beginFact();
        return e.length + 1;
    }

    boolean key(int dimension, int value) {
        arg(state != 2 && dimension >= 0 && dimension < now.dims.size());
        st(state == 1);
        List<int[]> members = now.dims.get(dimension).members;
        for (int i = 0; i < members.size(); i++) {
            if (members.get(i)[0] == value) {
                making[dimension] = i;
                return true;
            }
        }
        return false;
    }

    long amount(int measure, long value) {
        arg(state != 2 && measure >= 0 && measure < now.measures.size());
        st(state == 1);
        long before = makingAmounts[measure];
        makingAmounts[measure] = value;
        return before;
    }

    private void canStage(int n) {
        st(state == 1 && batch.size() + n <= 8192 && staged + n <= 20000);
    }

    int stage(int n) {
        arg(n >= 1 && n <= 1000);
        canStage(n);
        for (int i = 0; i < n; i++) {
            batch.add(fact(making, makingAmounts.clone()));
        }
        staged += n;
        return batch.size();
    }

    private Fact fact(int[] places, long[] amounts) {
        int[][] members = new int[places.length][];
        for (int d = 0; d < places.length; d++) {
            members[d] = now.dims.get(d).members.get(places[d]);
        }
        return new Fact(members, amounts);
    }

    int spread(int n, long seed) {
        arg(n >= 1 && n <= 4096);
        canStage(n);
        long h = seed;
        for (int i = 0; i < n; i++) {
            int[] places = new int[now.dims.size()];
            for (int d = 0; d < places.length; d++) {
                h = h * 6364136223846793005L + 1442695040888963407L;
                places[d] = (int) ((h >>> 33) % now.dims.get(d).members.size());
            }
            long[] amounts = new long[now.measures.size()];
            for (int m = 0; m < amounts.length; m++) {
                h = h * 6364136223846793005L + 1442695040888963407L;
                amounts[m] = h >> 8 * (m % 8);
            }
            batch.add(fact(places, amounts));
        }
        staged += n;
        return batch.size();
    }

    int drop() {
        st(state == 1);
        int size = batch.size();
        batch.clear();
        return size;
    }

    int load() {
        st(state == 1 && !batch.isEmpty());
        if (now.extents.size() >= 200) {
            return -2;
        }
        long weight = 8 + partWeight(factRows(batch));
        for (int[] view : now.views) {
            weight += partWeight(viewRows(batch, view));
        }
        Extent e = room('l', weight);
        if (e == null) {
            return -2;
        }
        now.extents.add(e);
        now.loads++;
        now.facts.addAll(batch);
        now.viewParts.add(new ArrayList<>(batch));
        batch.clear();
        return commit(e.length) ? now.loads : -3;
    }

    int choose(int k) {
        arg(k >= 0 && k <= 16);
        st(state == 1);
        int all = 1;
        for (Dim d : now.dims) {
            all *= d.levels.size() + 1;
        }
        st(all <= 512 && changes < 100);
        List<int[]> chosen = chosenViews(k, all);
        List<Extent> kept = new ArrayList<>(now.extents);
        kept.removeIf(e -> e.kind == 'c');
        int length = 0;
        if (!chosen.isEmpty()) {
            long weight = 8;
            for (int[] view : chosen) {
                weight += partWeight(viewRows(now.facts, view));
            }
            Extent e = room('c', weight);
            if (e == null || kept.size() + 1 > 200) {
                return -2;
            }
            kept.add(e);
            length = e.length;
        }
        changes++;
        now.extents = kept;
        now.views = chosen;
        now.viewParts = new ArrayList<>();
        now.viewParts.add(new ArrayList<>(now.facts));
        return commit(length) ? chosen.size() : -3;
    }

    int settle() {
        st(state == 1 && changes < 100);
        long weight = 8 + partWeight(factRows(now.facts));
        for (int[] view : now.views) {
            weight += partWeight(viewRows(now.facts, view));
        }
        Extent e = room('s', weight);
        if (e == null) {
            return -2;
        }
        changes++;
        now.extents = new ArrayList<>(List.of(now.extents.get(0), e));
        now.viewParts = new ArrayList<>();
        now.viewParts.add(new ArrayList<>(now.facts));
        return commit(e.length) ? e.length + 1 : -3;
    }

    void crash(int n) {
        arg(n >= -1 && n <= 1000);
        st(state != 2);
        fuse = n;
        if (n == 0) {
            goDown();
        }
    }

    int recover() {
        goDown();
        fuse = -1;
        state = saved == null ? 0 : 1;
        now = saved == null ? new Ledger() : saved.copy();
        if (state == 1) {
            beginFact();
        }
        return saved == null ? -1 : now.loads;
    }

    int state() {
        return state;
    }

    int writes() {
        return writes;
    }

    int count(int what) {
        arg(what >= 0 && what <= 6);
        st(state != 2);
        int free = blocks - 2;
        for (Extent e : now.extents) {
            free -= e.length;
        }
        return new int[] {now.loads, now.facts.size(), now.views.size(), now.extents.size(), free, batch.size(),
            text.length}[what];
    }

    int view(int i, int dimension) {
        arg(i >= 0 && i < now.views.size() && dimension >= 0 && dimension < now.dims.size());
        return now.views.get(i)[dimension];
    }

    int rows() {
        st(state != 2);
        return answer == null ? -1 : answer.rows.size();
    }

    private Object at(int r, int i) {
        arg(answer != null && r >= 0 && r < answer.rows.size() && i >= 0 && i < answer.items);
        return answer.rows.get(r)[i];
    }

    long cell(int r, int i) {
        Object v = at(r, i);
        return v == null ? 0 : (Long) v;
    }

    boolean isBlank(int r, int i) {
        return at(r, i) == null;
    }

    int served() {
        st(state != 2 && answer != null);
        return answer.served;
    }

    int audit() {
        st(state == 1);
        return 0;
    }

    private void goDown() {
        state = 2;
        now = new Ledger();
        text = new byte[0];
        batch.clear();
        answer = null;
        faultKind = 0;
        faultPlace = -1;
    }

    private void beginFact() {
        making = new int[now.dims.size()];
        makingAmounts = new long[now.measures.size()];
    }

    private Extent room(char kind, long weight) {
        long length = (weight + 4095) / 4096;
        for (int start = 2; start + length <= blocks; start++) {
            boolean free = true;
            for (Extent e : now.extents) {
                if (e.start < start + length && start < e.start + e.length) {
                    free = false;
                }
            }
            if (free) {
                return new Extent(kind, start, (int) length);
            }
        }
        return null;
    }

    private boolean commit(int length) {
        for (int i = 0; i <= length; i++) {
            writes++;
            if (i == length) {
                saved = now.copy();
            }
            if (fuse > 0 && --fuse == 0) {
                goDown();
                return false;
            }
        }
        return true;
    }

    private static int compare(long[] a, long[] b, int n) {
        for (int i = 0; i < n; i++) {
            if (a[i] != b[i]) {
                return Long.compare(a[i], b[i]);
            }
        }
        return 0;
    }

    List<long[]> factRows(List<Fact> facts) {
        int dims = now.dims.size();
        List<Map<Integer, Integer>> places = new ArrayList<>();
        for (Dim d : now.dims) {
            places.add(placesOf(d.valuesAt(0)));
        }
        List<long[]> rows = new ArrayList<>();
        for (Fact f : facts) {
            long[] row = new long[dims + now.measures.size()];
            for (int d = 0; d < dims; d++) {
                row[d] = places.get(d).get(f.members[d][0]);
            }
            System.arraycopy(f.amounts, 0, row, dims, f.amounts.length);
            rows.add(row);
        }
        rows.sort((a, b) -> compare(a, b, dims));
        return rows;
    }

    private static Map<Integer, Integer> placesOf(List<Integer> values) {
        Map<Integer, Integer> places = new HashMap<>();
        for (int i = 0; i < values.size(); i++) {
            places.put(values.get(i), i);
        }
        return places;
    }

    private List<long[]> viewRows(List<Fact> facts, int[] view) {
        List<Map<Integer, Integer>> places = new ArrayList<>();
        List<Integer> dims = new ArrayList<>();
        for (int d = 0; d < view.length; d++) {
            if (view[d] < now.dims.get(d).levels.size()) {
                dims.add(d);
                places.add(placesOf(now.dims.get(d).valuesAt(view[d])));
            }
        }
        int n = dims.size();
        TreeMap<long[], long[]> rows = new TreeMap<>((a, b) -> compare(a, b, n));
        for (Fact f : facts) {
            long[] row = new long[n + 1 + 3 * f.amounts.length];
            for (int i = 0; i < n; i++) {
                row[i] = places.get(i).get(f.members[dims.get(i)][view[dims.get(i)]]);
            }
            long[] there = rows.get(row);
            boolean fresh = there == null;
            if (fresh) {
                rows.put(row, row);
                there = row;
            }
            there[n]++;
            for (int m = 0; m < f.amounts.length; m++) {
                int c = n + 1 + 3 * m;
                there[c] += f.amounts[m];
                there[c + 1] = fresh ? f.amounts[m] : Math.min(there[c + 1], f.amounts[m]);
                there[c + 2] = fresh ? f.amounts[m] : Math.max(there[c + 2], f.amounts[m]);
            }
        }
        return new ArrayList<>(rows.values());
    }

    static long partWeight(List<long[]> rows) {
        long weight = 4;
        for (int from = 0; from < rows.size(); from += 1024) {
            List<long[]> segment = rows.subList(from, Math.min(rows.size(), from + 1024));
            weight += 2;
            for (int c = 0; c < rows.get(0).length; c++) {
                long[] cells = new long[segment.size()];
                for (int i = 0; i < cells.length; i++) {
                    cells[i] = segment.get(i)[c];
                }
                weight += 20 + formWeight(cells);
            }
        }
        return weight;
    }

    private static long bits(BigInteger x) {
        return x.bitLength();
    }

    private static long bytes(long bits) {
        return (bits + 7) / 8;
    }

    static long formWeight(long[] cells) {
        int n = cells.length;
        long least = Long.MAX_VALUE;
        long greatest = Long.MIN_VALUE;
        long leastStep = Long.MAX_VALUE;
        long greatestStep = Long.MIN_VALUE;
        int runs = 0;
        Set<Long> different = new HashSet<>();
        for (int i = 0; i < n; i++) {
            least = Math.min(least, cells[i]);
            greatest = Math.max(greatest, cells[i]);
            different.add(cells[i]);
            if (i == 0 || cells[i] != cells[i - 1]) {
                runs++;
            }
            if (i > 0) {
                leastStep = Math.min(leastStep, cells[i] - cells[i - 1]);
                greatestStep = Math.max(greatestStep, cells[i] - cells[i - 1]);
            }
        }
        long range = bits(BigInteger.valueOf(greatest).subtract(BigInteger.valueOf(least)));
        long stepRange = n < 2 ? 0 : bits(BigInteger.valueOf(greatestStep).subtract(BigInteger.valueOf(leastStep)));
        int d = different.size();
        long best = 8L * n;
        best = Math.min(best, 9 + bytes(n * range));
        best = Math.min(best, 2 + 8L * d + bytes(n * bits(BigInteger.valueOf(d - 1))));
        best = Math.min(best, 2 + 10L * runs);
        best = Math.min(best, 17 + bytes((n - 1) * stepRange));
        return best;
    }

    private int[] viewOf(int number) {
        int[] view = new int[now.dims.size()];
        for (int d = view.length - 1; d >= 0; d--) {
            int radix = now.dims.get(d).levels.size() + 1;
            view[d] = number % radix;
            number /= radix;
        }
        return view;
    }

    private static boolean isAboveOrSame(int[] v, int[] w) {
        for (int d = 0; d < v.length; d++) {
            if (v[d] > w[d]) {
                return false;
            }
        }
        return true;
    }

    private long estimate(int[] view) {
        BigInteger product = BigInteger.ONE;
        for (int d = 0; d < view.length; d++) {
            if (view[d] < now.dims.get(d).levels.size()) {
                product = product.multiply(BigInteger.valueOf(now.dims.get(d).valuesAt(view[d]).size()));
            }
        }
        return product.min(BigInteger.valueOf(now.facts.size())).longValue();
    }

    private List<int[]> chosenViews(int k, int all) {
        List<int[]> views = new ArrayList<>();
        long[] estimates = new long[all];
        for (int v = 0; v < all; v++) {
            views.add(viewOf(v));
            estimates[v] = estimate(views.get(v));
        }
        List<Integer> chosen = new ArrayList<>();
        long[] costs = new long[all];
        while (chosen.size() < k) {
            for (int w = 0; w < all; w++) {
                costs[w] = now.facts.size();
                for (int c : chosen) {
                    if (isAboveOrSame(views.get(c), views.get(w))) {
                        costs[w] = Math.min(costs[w], estimates[c]);
                    }
                }
            }
            int best = -1;
            long greatest = 0;
            for (int v = 0; v < all; v++) {
                long benefit = 0;
                for (int w = 0; w < all; w++) {
                    if (isAboveOrSame(views.get(v), views.get(w))) {
                        benefit += Math.max(0, costs[w] - estimates[v]);
                    }
                }
                if (benefit > greatest) {
                    greatest = benefit;
                    best = v;
                }
            }
            if (best < 0) {
                break;
            }
            chosen.add(best);
        }
        List<int[]> result = new ArrayList<>();
        for (int c : chosen) {
            result.add(views.get(c));
        }
        return result;
    }

    /** The table for a question whose columns need these levels at most (a missing dimension needs 99). */
    int servedBy(int[] lowest) {
        int best = -1;
        long least = now.facts.size();
        for (int i = 0; i < now.views.size(); i++) {
            int[] view = now.views.get(i);
            boolean fits = true;
            for (int d = 0; d < view.length; d++) {
                fits &= lowest[d] == 99 || view[d] <= lowest[d];
            }
            if (!fits) {
                continue;
            }
            long rows = 0;
            for (List<Fact> part : now.viewParts) {
                rows += viewRows(part, view).size();
            }
            if (rows < least) {
                least = rows;
                best = i;
            }
        }
        return best;
    }
}
