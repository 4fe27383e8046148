import java.util.ArrayList;
import java.util.List;

/**
 * "POWER. When as many blocks were written (by any changes from then on) as crash() said the power fails: the change
 * that wrote the last of them answers CUT, also if that was its manifest; it is there after recovery just when its
 * manifest was written." Here it fails at each block of a life's changes, one after the other.
 */
public final class PowerBoundsTest {
    private static final Check CHECK = new Check("PowerBoundsTest");
    private static final String CATALOG = "dimension shop(store,city);dimension day(day,month);measure price;measure n;member shop"
        + Check.repeat("(#,1)", 500, ",") + ";member day" + Check.repeat("(#,2)", 30, ",") + ";";
    private static final String QUESTION = "select shop.city, day.day, count(*), sum(price), min(n), max(price)"
        + " group by rollup(shop.city, day.day);";
    /** The changes of a life in their order: open, load, choose, settle. */
    private static final String[] CHANGES = {"o", "l", "l", "c3", "l", "s", "l", "c0", "s", "c2", "c2", "l", "s", "s", "c1", "l"};

    public static void main(String[] args) {
        atEachBlock();
        atEachBlockOfOne();
        boundsOfCrash();
        atOnce();
        aThousandBlocks();
        lastWord();
        manifestAlone();
        whatIsGone();
        cutOverAndOver();
        fullWritesNothing();
        recoverAnswers();
        CHECK.end();
    }

    private static CubeStore told() {
        CubeStore s = new CubeStore(120);
        Check.run(s, CATALOG);
        return s;
    }

    private static int change(CubeStore s, int i) {
        String what = CHANGES[i];
        if (what.equals("o")) {
            return s.open();
        }
        if (what.equals("l")) {
            s.spread(900, i);
            return s.load();
        }
        return what.equals("s") ? s.settle() : s.choose(what.charAt(1) - '0');
    }

    /** How many blocks were written in all behind each of the changes, and what lasts then. */
    private static void undisturbed(int[] written, List<String> lasting) {
        lasting.add(Trace.lasting(told0(), QUESTION));
        for (int k = 0; k < CHANGES.length; k++) {
            CubeStore s = told();
            for (int i = 0; i <= k; i++) {
                CHECK.due("change " + i, change(s, i) >= 0, true);
            }
            written[k] = s.writes();
            s.recover();
            lasting.add(Trace.lasting(s, QUESTION));
        }
    }

    private static CubeStore told0() {
        CubeStore s = told();
        s.recover();
        return s;
    }

    /** For each number of blocks: which change is cut, how much was written, what is there behind it. */
    private static void atEachBlock() {
        int[] written = new int[CHANGES.length];
        List<String> lasting = new ArrayList<>();
        undisturbed(written, lasting);
        int all = written[CHANGES.length - 1];
        CHECK.due("open takes two blocks and a manifest", written[0], 3);
        for (int n = 1; n <= all + 1; n++) {
            CubeStore s = told();
            s.crash(n);
            int made = 0;
            while (made < CHANGES.length && written[made] < n) {
                CHECK.due("change " + made + " before " + n + " blocks", change(s, made) >= 0, true);
                made++;
            }
            if (made < CHANGES.length) {
                CHECK.due("change " + made + " is cut at " + n, change(s, made), -3);
                CHECK.due("DOWN", s.state(), 2);
                made += written[made] == n ? 1 : 0;
            } else {
                CHECK.due("it is not DOWN", s.state(), 1);
            }
            CHECK.due("blocks written", s.writes(), Math.min(n, all));
            s.recover();
            CHECK.due("blocks written by recovery: none", s.writes(), Math.min(n, all));
            CHECK.due("what is there after " + n + " blocks", Trace.lasting(s, QUESTION).equals(lasting.get(made)), true);
            CHECK.due("the batch is gone", made == 0 ? 0 : s.drop(), 0);
        }
    }

    /** The same for each change alone: crash() counts from when it is called. */
    private static void atEachBlockOfOne() {
        int[] written = new int[CHANGES.length];
        List<String> lasting = new ArrayList<>();
        undisturbed(written, lasting);
        for (int k = 0; k < CHANGES.length; k++) {
            int blocks = written[k] - (k == 0 ? 0 : written[k - 1]);
            for (int n = 1; n <= blocks + 1; n++) {
                CubeStore s = told();
                for (int i = 0; i < k; i++) {
                    change(s, i);
                }
                s.crash(n);
                CHECK.due("change " + k + " at " + n, change(s, k) == -3, n <= blocks);
                CHECK.due("state", s.state(), n <= blocks ? 2 : 1);
                CHECK.due("recover", s.recover(), k == 0 && n < blocks ? -1 : loads(n < blocks ? k : k + 1));
                CHECK.due("what is there", Trace.lasting(s, QUESTION).equals(lasting.get(n < blocks ? k : k + 1)), true);
            }
        }
    }

    private static int loads(int changes) {
        int loads = 0;
        for (int i = 0; i < changes; i++) {
            loads += CHANGES[i].equals("l") ? 1 : 0;
        }
        return loads;
    }

    /** "Illegal argument: n is not NONE .. 1000; illegal state." */
    private static void boundsOfCrash() {
        CubeStore s = told();
        for (int n : new int[] {-2, 1001, Integer.MIN_VALUE, Integer.MAX_VALUE}) {
            CHECK.argument("crash " + n, () -> s.crash(n));
        }
        for (int n : new int[] {-1, 1, 1000, -1}) {
            s.crash(n);
            CHECK.due("still NEW", s.state(), 0);
        }
        s.crash(3);
        CHECK.argument("crash 1001", () -> s.crash(1001));
        CHECK.argument("crash -2", () -> s.crash(-2));
        CHECK.due("what was said before holds", s.open(), -3);
        for (int n : new int[] {-2, 1001}) {
            CHECK.argument("crash " + n + " when DOWN", () -> s.crash(n));
        }
        for (int n : new int[] {-1, 0, 1, 1000}) {
            CHECK.state("crash " + n + " when DOWN", () -> s.crash(n));
        }
        CHECK.due("recover", s.recover(), 0);
    }

    /** "with n = 0 it fails at once", whatever was said before; "with NONE it will not". */
    private static void atOnce() {
        CubeStore s = told();
        s.crash(0);
        CHECK.due("DOWN", s.state(), 2);
        CHECK.due("nothing is written", s.writes(), 0);
        CHECK.due("recover", s.recover(), -1);
        CHECK.due("NEW", s.state(), 0);
        CHECK.state("no catalog", () -> s.open());
        Check.run(s, CATALOG);
        CHECK.due("open", s.open(), 3);
        s.crash(700);
        s.crash(0);
        CHECK.due("DOWN", s.state(), 2);
        CHECK.due("recover", s.recover(), 0);
        s.crash(1);
        s.crash(-1);
        s.stage(1);
        CHECK.due("it will not", s.load(), 1);
    }

    /** The greatest number of blocks that crash() takes, to the very block. */
    private static void aThousandBlocks() {
        for (int n = 999; n <= 1000; n++) {
            CubeStore s = Check.opened(512, Check.SHOPS);
            s.spread(4096, 1);
            s.spread(4000, 1);
            s.load();
            int before = s.writes();
            s.crash(n);
            int last = 0;
            for (int i = 0; i < 99 && last != -3; i++) {
                last = s.settle();
                CHECK.due("blocks of a settling", last == -3 || last > 20, true);
            }
            CHECK.due("blocks when the power failed", s.writes() - before, n);
            CHECK.due("DOWN", s.state(), 2);
            CHECK.due("recover", s.recover(), 1);
            CHECK.due("audit", s.audit(), 0);
        }
    }

    /** Each crash() counts anew from when it is called; only the last one holds. */
    private static void lastWord() {
        CubeStore s = Check.opened(64, Check.SHOPS);
        s.crash(3);
        s.stage(1);
        CHECK.due("two of three", s.load(), 1);
        s.crash(3);
        s.stage(1);
        CHECK.due("two of three again", s.load(), 2);
        CHECK.due("the third is a manifest", s.choose(0), -3);
        s.recover();
        s.crash(2);
        s.stage(1);
        CHECK.due("cut at its manifest", s.load(), -3);
        CHECK.due("it is there", s.recover(), 3);
        s.crash(1);
        s.recover();
        s.stage(1);
        CHECK.due("recovery takes what crash() said", s.load(), 4);
        s.stage(1);
        CHECK.due("for good", s.load(), 5);
    }

    /** A choice of none writes a manifest alone: the first block is the last. */
    private static void manifestAlone() {
        CubeStore s = Check.opened(64, Check.SHOPS);
        s.spread(50, 1);
        s.load();
        s.choose(3);
        s.crash(1);
        CHECK.due("cut", s.choose(0), -3);
        s.recover();
        CHECK.due("no view is chosen", s.count(2), 0);
        CHECK.due("the choice's extent is gone", s.count(3), 2);
        s.choose(3);
        s.crash(2);
        CHECK.due("not yet", s.choose(0), 0);
        CHECK.due("now", s.choose(0), -3);
        s.recover();
        CHECK.due("OPEN", s.state(), 1);
    }

    /** "then all that is not on the disk is gone (there is no catalog, text, batch, answer, no chosen view)". */
    private static void whatIsGone() {
        CubeStore s = Check.opened(64, Check.SHOPS);
        s.spread(50, 1);
        s.load();
        s.choose(3);
        s.spread(20, 2);
        s.key(0, 5);
        s.amount(0, 5);
        Check.run(s, "select count(*);?");
        Check.tell(s, "select");
        s.crash(0);
        CHECK.argument("no dimension", () -> s.key(0, 1));
        CHECK.argument("no measure", () -> s.amount(0, 1));
        CHECK.argument("no text", () -> s.trim(1));
        CHECK.argument("no chosen view", () -> s.view(0, 0));
        CHECK.argument("no cell", () -> s.cell(0, 0));
        CHECK.argument("no blank", () -> s.isBlank(0, 0));
        CHECK.due("recover", s.recover(), 1);
        CHECK.due("chosen views are on the disk", s.count(2), 3);
        int[] due = {1, 50, 3, 3, 64 - 2 - 3, 0, 0};
        for (int what = 0; what <= 6; what++) {
            CHECK.due("count " + what, s.count(what), due[what]);
        }
        CHECK.due("no fault", s.fault(0), 0);
        CHECK.due("no place", s.fault(1), -1);
        CHECK.due("no answer", s.rows(), -1);
        CHECK.due("amounts are 0", s.amount(0, 1), 0);
    }

    /** One change that is cut again and again, at each of its blocks by turns, leaves all as it was. */
    private static void cutOverAndOver() {
        CubeStore s = Check.opened(90, CATALOG);
        s.spread(2000, 1);
        s.load();
        s.choose(3);
        String due = Trace.lasting(s, QUESTION);
        for (int i = 0; i < 60; i++) {
            s.crash(1 + i % 5);
            s.spread(150, i);
            CHECK.due("cut", i % 3 == 0 ? s.settle() : i % 3 == 1 ? s.choose(2 + i % 2) : s.choose(3), -3);
            CHECK.due("recover", s.recover(), 1);
        }
        CHECK.due("all as it was", Trace.lasting(s, QUESTION).equals(due), true);
        CHECK.due("audit", s.audit(), 0);
    }

    /** "FULL is asked before anything is written": the power does not fail by a change that is FULL. */
    private static void fullWritesNothing() {
        CubeStore s = Check.opened(16, Check.SHOPS);
        s.spread(1200, 1);
        s.load();
        s.spread(4000, 2);
        int writes = s.writes();
        s.crash(1);
        CHECK.due("load", s.load(), -2);
        CHECK.due("OPEN", s.state(), 1);
        CHECK.due("nothing is written", s.writes(), writes);
        CHECK.due("the batch stays", s.drop(), 4000);
        s.spread(2400, 3);
        CHECK.due("load", s.load(), -2);
        CHECK.due("the next block is the one", s.choose(0), -3);
        CHECK.due("writes", s.writes(), writes + 1);
        CHECK.due("recover", s.recover(), 1);
    }

    /** "Answers how many loads are there; NONE if it is NEW then (without a catalog)." */
    private static void recoverAnswers() {
        CubeStore s = new CubeStore(32);
        CHECK.due("NEW", s.recover(), -1);
        Check.run(s, Check.SHOPS);
        CHECK.due("NEW with a catalog", s.recover(), -1);
        CHECK.argument("the catalog is gone", () -> s.key(0, 1));
        CHECK.fine(s, Check.SHOPS, 6);
        s.open();
        CHECK.due("OPEN without loads", s.recover(), 0);
        for (int i = 1; i <= 5; i++) {
            s.stage(i);
            s.load();
            CHECK.due("OPEN with loads", s.recover(), i);
            CHECK.due("again", s.recover(), i);
        }
        s.settle();
        CHECK.due("settled", s.recover(), 5);
        s.crash(0);
        CHECK.due("DOWN", s.recover(), 5);
        CHECK.due("OPEN", s.state(), 1);
    }
}
