import java.util.LinkedHashMap;
import java.util.Map;
import java.util.function.Consumer;
import java.util.function.Supplier;

/**
 * "In all calls illegal argument: a number is out of its bounds. Illegal state: the store is DOWN, or not as it
 * must be. Of several exceptions the one named first is thrown; a call that throws changes nothing."
 *
 * Each refused call is made on a store in each state, and all that this store says and does from then on is held
 * against a store on which the call was not made.
 */
public final class RefusalTest {
    private static final Check CHECK = new Check("RefusalTest");
    private static final String QUESTION = "select shop.store, day.day, count(*), sum(price), min(n)"
        + " group by rollup(shop.store, day.day);";
    private static final int LEAST = Integer.MIN_VALUE;
    private static final int MOST = Integer.MAX_VALUE;

    private final String name;
    private final Supplier<CubeStore> maker;
    private final String due;

    private RefusalTest(String name, Supplier<CubeStore> maker) {
        this.name = name;
        this.maker = maker;
        due = Trace.future(maker.get(), QUESTION);
    }

    public static void main(String[] args) {
        tellApart();
        whenNew();
        whenTold();
        whenOpen();
        whenOpenAndIdle();
        whenDown();
        whenFull();
        whenLifeIsOver();
        whenThereAreManyViews();
        CHECK.end();
    }

    /** A test of the test: small differences show in what a store does from now on. */
    private static void tellApart() {
        String due = Trace.future(busy(), QUESTION);
        CHECK.due("two stores that are alike", Trace.future(busy(), QUESTION).equals(due), true);
        Map<String, Check.Deed> changes = new LinkedHashMap<>();
        CubeStore[] it = new CubeStore[1];
        changes.put("key", () -> it[0].key(1, 32));
        changes.put("amount", () -> it[0].amount(1, 6));
        changes.put("feed", () -> it[0].feed(0x20202020, 0, 0, 0, 0));
        changes.put("trim", () -> it[0].trim(1));
        changes.put("run", () -> it[0].run());
        changes.put("crash", () -> it[0].crash(11));
        changes.put("one fact that was staged", () -> {
            it[0].drop();
            it[0].stage(4);
        });
        changes.put("one more change", () -> it[0].settle());
        for (Map.Entry<String, Check.Deed> change : changes.entrySet()) {
            it[0] = busy();
            change.getValue().go();
            CHECK.due(change.getKey() + " shows", Trace.future(it[0], QUESTION).equals(due), false);
        }
    }

    /** OPEN with all that a store can have: loads, views, a batch, a fact in the making, an answer, a fault, a text. */
    private static CubeStore busy() {
        CubeStore s = Check.opened(40, Check.SHOPS);
        s.spread(60, 3);
        s.load();
        s.choose(2);
        Check.run(s, "select shop.city, count(*) group by shop.city;#");
        s.key(0, 3);
        s.key(1, 31);
        s.amount(0, -8);
        s.amount(1, 5);
        s.stage(4);
        Check.tell(s, "select sum(n); select coun");
        s.crash(10);
        return s;
    }

    private void argument(String call, Consumer<CubeStore> deed) {
        refused(call, deed, true);
    }

    private void state(String call, Consumer<CubeStore> deed) {
        refused(call, deed, false);
    }

    private void refused(String call, Consumer<CubeStore> deed, boolean isArgument) {
        CubeStore s = maker.get();
        for (int i = 0; i < 2; i++) {
            if (isArgument) {
                CHECK.argument(call + " when " + name, () -> deed.accept(s));
            } else {
                CHECK.state(call + " when " + name, () -> deed.accept(s));
            }
        }
        CHECK.due(call + " when " + name + " changes nothing", Trace.future(s, QUESTION).equals(due), true);
    }

    /** Numbers that are out of their bounds in each state, whatever else is wrong. */
    private void outOfBounds() {
        for (int n : new int[] {-1, 21, LEAST, MOST}) {
            argument("trim(" + n + ")", s -> s.trim(n));
        }
        for (int n : new int[] {-1, 2, LEAST, MOST}) {
            argument("fault(" + n + ")", s -> s.fault(n));
        }
        for (int n : new int[] {-1, 2, 8, LEAST, MOST}) {
            argument("key(" + n + ")", s -> s.key(n, 1));
            argument("amount(" + n + ")", s -> s.amount(n, 1));
        }
        for (int n : new int[] {0, -1, 1001, LEAST, MOST}) {
            argument("stage(" + n + ")", s -> s.stage(n));
        }
        for (int n : new int[] {0, -1, 4097, LEAST, MOST}) {
            argument("spread(" + n + ")", s -> s.spread(n, 1));
        }
        for (int n : new int[] {-1, 17, LEAST, MOST}) {
            argument("choose(" + n + ")", s -> s.choose(n));
        }
        for (int n : new int[] {-2, 1001, LEAST, MOST}) {
            argument("crash(" + n + ")", s -> s.crash(n));
        }
        for (int n : new int[] {-1, 7, LEAST, MOST}) {
            argument("count(" + n + ")", s -> s.count(n));
        }
        for (int n : new int[] {-1, 16, LEAST, MOST}) {
            argument("view(" + n + ", 0)", s -> s.view(n, 0));
            argument("view(0, " + n + ")", s -> s.view(0, n));
        }
        for (int n : new int[] {-1, 4000, LEAST, MOST}) {
            argument("cell(" + n + ", 0)", s -> s.cell(n, 0));
            argument("cell(0, " + n + ")", s -> s.cell(0, n));
            argument("isBlank(" + n + ", 0)", s -> s.isBlank(n, 0));
            argument("isBlank(0, " + n + ")", s -> s.isBlank(0, n));
        }
    }

    private void onlyWhenOpen() {
        for (int n : new int[] {1, 1000}) {
            state("stage(" + n + ")", s -> s.stage(n));
        }
        for (int n : new int[] {1, 4096}) {
            state("spread(" + n + ")", s -> s.spread(n, 1));
        }
        for (int n : new int[] {0, 16}) {
            state("choose(" + n + ")", s -> s.choose(n));
        }
        state("drop()", s -> s.drop());
        state("load()", s -> s.load());
        state("settle()", s -> s.settle());
        state("audit()", s -> s.audit());
    }

    private void withoutAnswer() {
        state("served()", s -> s.served());
        argument("cell(0, 0)", s -> s.cell(0, 0));
        argument("isBlank(0, 0)", s -> s.isBlank(0, 0));
    }

    private static void whenNew() {
        RefusalTest test = new RefusalTest("NEW", () -> new CubeStore(40));
        test.outOfBounds();
        test.onlyWhenOpen();
        test.withoutAnswer();
        test.state("open()", s -> s.open());
        test.argument("key(0)", s -> s.key(0, 1));
        test.argument("amount(0)", s -> s.amount(0, 1));
        test.argument("view(0, 0)", s -> s.view(0, 0));
        test.argument("trim(1)", s -> s.trim(1));
    }

    /** NEW with a catalog of two dimensions and two measures, one dimension without members, and a text of 19 bytes. */
    private static void whenTold() {
        RefusalTest test = new RefusalTest("NEW with a catalog", () -> {
            CubeStore s = new CubeStore(40);
            Check.run(s, "dimension shop(store);dimension day(day,month);measure price;measure n;member shop(7),(8);");
            Check.tell(s, "member day(1,2);   ");
            return s;
        });
        test.outOfBounds();
        test.onlyWhenOpen();
        test.withoutAnswer();
        test.state("open()", s -> s.open());
        test.state("key(0, 7)", s -> s.key(0, 7));
        test.state("key(1, 9)", s -> s.key(1, 9));
        test.state("amount(0)", s -> s.amount(0, 1));
        test.state("amount(1)", s -> s.amount(1, 1));
        test.argument("view(0, 0)", s -> s.view(0, 0));
        test.argument("trim(20) of 19", s -> s.trim(20));
    }

    private static void whenOpen() {
        RefusalTest test = new RefusalTest("OPEN", RefusalTest::busy);
        test.outOfBounds();
        test.state("open()", s -> s.open());
        test.argument("view(2, 0) of two", s -> s.view(2, 0));
        test.argument("view(1, 2) of two dimensions", s -> s.view(1, 2));
        test.argument("cell(3, 0) of three rows", s -> s.cell(3, 0));
        test.argument("cell(2, 2) of two items", s -> s.cell(2, 2));
        test.argument("isBlank(3, 0) of three rows", s -> s.isBlank(3, 0));
        test.argument("isBlank(2, 2) of two items", s -> s.isBlank(2, 2));
    }

    /** OPEN without a batch, a view, an answer. */
    private static void whenOpenAndIdle() {
        RefusalTest test = new RefusalTest("OPEN and idle", () -> Check.opened(40, Check.SHOPS));
        test.withoutAnswer();
        test.state("load()", s -> s.load());
        test.state("open()", s -> s.open());
        test.argument("view(0, 0)", s -> s.view(0, 0));
        test.argument("trim(1)", s -> s.trim(1));
    }

    private static void whenDown() {
        RefusalTest test = new RefusalTest("DOWN", () -> {
            CubeStore s = busy();
            s.crash(0);
            return s;
        });
        test.outOfBounds();
        test.onlyWhenOpen();
        test.withoutAnswer();
        test.state("feed()", s -> s.feed(0, 0, 0, 0, 0));
        test.state("trim(0)", s -> s.trim(0));
        test.argument("trim(1) of no text", s -> s.trim(1));
        test.state("run()", s -> s.run());
        test.state("fault(0)", s -> s.fault(0));
        test.state("fault(1)", s -> s.fault(1));
        test.state("open()", s -> s.open());
        test.argument("key(0) of no catalog", s -> s.key(0, 1));
        test.argument("amount(0) of no catalog", s -> s.amount(0, 1));
        for (int n : new int[] {-1, 0, 1, 1000}) {
            test.state("crash(" + n + ")", s -> s.crash(n));
        }
        for (int what = 0; what <= 6; what++) {
            int asked = what;
            test.state("count(" + what + ")", s -> s.count(asked));
        }
        test.argument("view(0, 0)", s -> s.view(0, 0));
        test.state("rows()", s -> s.rows());
    }

    /** A batch of 8190: two more facts may come, three may not. */
    private static void whenFull() {
        RefusalTest test = new RefusalTest("the batch has 8190", () -> {
            CubeStore s = Check.opened(512, Check.SHOPS);
            s.spread(4096, 5);
            s.spread(4094, 6);
            return s;
        });
        test.state("stage(3)", s -> s.stage(3));
        test.state("spread(3)", s -> s.spread(3, 1));
        test.state("stage(1000)", s -> s.stage(1000));
        test.state("spread(4096)", s -> s.spread(4096, 1));
        test.argument("stage(1001)", s -> s.stage(1001));
        test.argument("spread(4097)", s -> s.spread(4097, 1));
    }

    /** 19998 facts were staged in this life, and there were 100 choices and settlings. */
    private static void whenLifeIsOver() {
        RefusalTest test = new RefusalTest("life is over", () -> {
            CubeStore s = Check.opened(40, Check.SHOPS);
            s.stage(6);
            s.load();
            for (int i = 0; i < 5; i++) {
                s.spread(i < 4 ? 4096 : 3608, i);
                s.drop();
            }
            for (int i = 0; i < 99; i++) {
                s.choose(0);
            }
            s.choose(1);
            return s;
        });
        test.state("stage(3)", s -> s.stage(3));
        test.state("spread(3)", s -> s.spread(3, 1));
        test.state("choose(0)", s -> s.choose(0));
        test.state("choose(16)", s -> s.choose(16));
        test.state("settle()", s -> s.settle());
        test.argument("stage(0)", s -> s.stage(0));
        test.argument("spread(0)", s -> s.spread(0, 1));
        test.argument("choose(-1)", s -> s.choose(-1));
        test.argument("choose(17)", s -> s.choose(17));
    }

    /** 5 * 4 * 3 * 3 * 3 views are 540; no catalog has more than 512 and less than these. */
    private static void whenThereAreManyViews() {
        RefusalTest test = new RefusalTest("there are 540 views", () -> {
            CubeStore s = Check.opened(40, "dimension a(k,l,m,n);dimension b(k,l,m);dimension c(k,l);dimension d(k,l);"
                + "dimension e(k,l);measure s;member a(1,1,1,1),(2,1,1,1);member b(1,1,1);member c(1,1);member d(1,1);"
                + "member e(1,1);");
            s.stage(5);
            s.load();
            return s;
        });
        test.state("choose(0)", s -> s.choose(0));
        test.state("choose(1)", s -> s.choose(1));
        test.state("choose(16)", s -> s.choose(16));
        test.argument("choose(17)", s -> s.choose(17));
    }
}
