/** Promises 7 to 12 at their bounds: the fact in the making, the batch of 8192, a life of 20000 facts. */
public final class LifeBoundsTest {
    private static final Check CHECK = new Check("LifeBoundsTest");
    private static final String SMALL = "dimension a(x);dimension b(y);measure m;measure k;member a(7),(-5),(2);member b(3),(1);";
    private static final String ALL = "select a.x, b.y, count(*), sum(m), sum(k) group by a.x, b.y;";

    public static void main(String[] args) {
        keys();
        amounts();
        firstFact();
        stagedAtATime();
        spreadAtATime();
        spreadSeeds();
        spreadOverMembers();
        mostInABatch();
        mostInALife();
        whatCountsInALife();
        dropped();
        loaded();
        batchThatDoesNotFit();
        CHECK.end();
    }

    private static CubeStore open() {
        return Check.opened(512, SMALL);
    }

    /** "Answers whether there is such a member (nothing changes otherwise)." */
    private static void keys() {
        CubeStore s = open();
        int[] there = {7, -5, 2};
        for (int value : there) {
            CHECK.due("key " + value, s.key(0, value), true);
            for (int none : new int[] {value - 1, value + 1, Integer.MIN_VALUE, Integer.MAX_VALUE, 0}) {
                CHECK.due("key " + none, s.key(0, none), false);
            }
            s.stage(1);
            s.load();
        }
        CHECK.answers(s, "select a.x, count(*) group by a.x;", 2, "-5 1 / 2 1 / 7 1");
        CHECK.argument("dimension -1", () -> s.key(-1, 7));
        CHECK.due("the last dimension", s.key(1, 3), true);
        CHECK.argument("dimension 2", () -> s.key(2, 7));
        CHECK.argument("no dimension even for no member", () -> s.key(2, 99));
    }

    /** "The fact in the making gets an amount of a measure: the one before." */
    private static void amounts() {
        CubeStore s = open();
        long[] values = {Long.MIN_VALUE, Long.MAX_VALUE, 0, -1, 1, Integer.MIN_VALUE, Integer.MAX_VALUE, 1L << 32};
        long before = 0;
        for (long value : values) {
            CHECK.due("the one before", s.amount(1, value), before);
            CHECK.due("the other measure stays 0", s.amount(0, 0), 0);
            before = value;
            s.stage(1);
            s.load();
            s.choose(0);
        }
        long sum = 0;
        for (long value : values) {
            sum += value;
        }
        CHECK.answers(s, "select sum(k), min(k), max(k), sum(m);", 4, sum + " " + Long.MIN_VALUE + " " + Long.MAX_VALUE + " 0");
        CHECK.argument("measure -1", () -> s.amount(-1, 1));
        CHECK.argument("measure 2", () -> s.amount(2, 1));
        CHECK.due("nothing changed", s.amount(1, 0), before);
    }

    /** "at first, and after recovery, the first member of each dimension by value at level 0, all amounts 0". */
    private static void firstFact() {
        CubeStore s = open();
        for (int i = 1; i <= 3; i++) {
            s.stage(1);
            s.load();
            CHECK.answers(s, ALL, 5, "-5 1 " + i + " 0 0");
            s.key(0, 7);
            s.key(1, 3);
            s.amount(0, 5);
            s.amount(1, 6);
            if (i == 2) {
                s.crash(0);
            }
            s.recover();
        }
        s.key(0, 7);
        s.amount(1, 6);
        s.stage(1);
        s.crash(1);
        CHECK.due("cut", s.load(), -3);
        s.recover();
        CHECK.due("all amounts 0 after a cut", s.amount(1, 0), 0);
        s.stage(1);
        s.load();
        CHECK.answers(s, ALL, 5, "-5 1 4 0 0");
    }

    /** "The fact in the making is staged n times (and stays in the making)"; "n is not 1 .. 1000". */
    private static void stagedAtATime() {
        for (int n : new int[] {1, 2, 999, 1000}) {
            CubeStore s = open();
            s.key(0, 2);
            s.amount(0, 3);
            CHECK.due("stage " + n, s.stage(n), n);
            CHECK.due("and again", s.stage(n), 2 * n);
            CHECK.due("it stays in the making", s.amount(0, 3), 3);
            for (int none : new int[] {0, -1, 1001, 4096, Integer.MIN_VALUE, Integer.MAX_VALUE}) {
                CHECK.argument("stage " + none, () -> s.stage(none));
            }
            CHECK.due("in the batch", s.count(5), 2 * n);
            s.load();
            CHECK.answers(s, ALL, 5, "2 1 " + 2 * n + " " + 6 * n + " 0");
        }
    }

    /** "Stages n facts by a number"; "n is not 1 .. 4096". */
    private static void spreadAtATime() {
        for (int n : new int[] {1, 2, 4095, 4096}) {
            CubeStore s = open();
            CHECK.due("spread " + n, s.spread(n, 9), n);
            for (int none : new int[] {0, -1, 4097, Integer.MIN_VALUE, Integer.MAX_VALUE}) {
                CHECK.argument("spread " + none, () -> s.spread(none, 9));
            }
            CHECK.due("in the batch", s.count(5), n);
            s.load();
            CHECK.answers(s, "select count(*);", 1, "" + n);
        }
    }

    private static long next(long h) {
        return h * 6364136223846793005L + 1442695040888963407L;
    }

    /** The number wraps from any seed on: sums, least and greatest of eight measures, each with its own shift. */
    private static void spreadSeeds() {
        for (long seed : new long[] {0, 1, -1, Long.MIN_VALUE, Long.MAX_VALUE, 77, 1L << 33, -7046029254386353131L}) {
            CubeStore s = Check.opened(64, "dimension a(x);" + Check.repeat("measure m#;", 8, "") + "member a(30),(10),(20),(40),(50);");
            s.spread(100, seed);
            s.load();
            long h = seed;
            long[] counts = new long[5];
            long[] sums = new long[8];
            long[] least = new long[8];
            for (int i = 0; i < 100; i++) {
                h = next(h);
                counts[(int) ((h >>> 33) % 5)]++;
                for (int m = 0; m < 8; m++) {
                    h = next(h);
                    sums[m] += h >> 8 * m;
                    least[m] = i == 0 ? h >> 8 * m : Math.min(least[m], h >> 8 * m);
                }
            }
            StringBuilder due = new StringBuilder();
            for (int i = 0; i < 5; i++) {
                if (counts[i] > 0) {
                    due.append(due.length() == 0 ? "" : " / ").append(10 * (i + 1)).append(" ").append(counts[i]);
                }
            }
            CHECK.answers(s, "select a.x, count(*) group by a.x;", 2, due.toString());
            for (int m = 0; m < 8; m++) {
                CHECK.answers(s, "select sum(m" + m + "), min(m" + m + ");", 2, sums[m] + " " + least[m]);
            }
        }
    }

    /** "for each dimension the member at the place (h >>> 33) % members": of one member, of two and of a thousand. */
    private static void spreadOverMembers() {
        CubeStore s = Check.opened(64, "dimension a(x);dimension b(x);dimension c(x);measure m;member a(5);member b(8),(6);member c"
            + Check.repeat("(#)", 1000, ",") + ";");
        s.spread(300, 4);
        s.load();
        long h = 4;
        long[] both = new long[2];
        long places = 0;
        for (int i = 0; i < 300; i++) {
            h = next(h);
            h = next(h);
            int b = (int) ((h >>> 33) % 2);
            h = next(h);
            both[b]++;
            places = Math.max(places, (h >>> 33) % 1000);
            h = next(h);
        }
        CHECK.answers(s, "select a.x, b.x, count(*) group by a.x, b.x;", 3, "5 6 " + both[0] + " / 5 8 " + both[1]);
        CHECK.answers(s, "select count(*) where c.x>" + places + ";", 1, "0");
        CHECK.answers(s, "select c.x where c.x=" + places + " group by c.x;", 1, "" + places);
    }

    /** "THE BATCH holds facts that were staged, 8192 at most". */
    private static void mostInABatch() {
        for (int there = 8190; there <= 8192; there++) {
            for (int more = 1; more <= 3; more++) {
                CubeStore s = open();
                s.spread(4096, 1);
                s.spread(there - 4096, 2);
                CubeStore t = open();
                for (int i = 0; i < 8; i++) {
                    t.stage(1000);
                }
                t.stage(there - 8000);
                int n = more;
                if (there + more <= 8192) {
                    CHECK.due("stage " + more + " behind " + there, s.stage(more), there + more);
                    CHECK.due("spread " + more + " behind " + there, t.spread(more, 5), there + more);
                } else {
                    CHECK.state("stage " + more + " behind " + there, () -> s.stage(n));
                    CHECK.state("spread " + more + " behind " + there, () -> t.spread(n, 5));
                    CHECK.due("the batch", s.count(5), there);
                    CHECK.due("the other batch", t.count(5), there);
                }
            }
        }
        CubeStore s = open();
        s.spread(4096, 1);
        s.spread(4096, 1);
        CHECK.due("a load of 8192", s.load(), 1);
        CHECK.due("then there is room again", s.stage(1000), 1000);
        CHECK.answers(s, "select count(*);", 1, "8192");
        CHECK.due("audit", s.audit(), 0);
    }

    private static CubeStore staged(int facts) {
        CubeStore s = open();
        int left = facts;
        for (int i = 0; i < 10 && left > 0; i++) {
            int n = Math.min(left, 4096);
            s.spread(n, i);
            s.drop();
            left -= n;
        }
        return s;
    }

    /** "in a life (whatever the power does) at most 20000 facts are staged." */
    private static void mostInALife() {
        for (int there = 19998; there <= 20000; there++) {
            for (int more = 1; more <= 3; more++) {
                CubeStore s = staged(there);
                CubeStore t = staged(there);
                int n = more;
                if (there + more <= 20000) {
                    CHECK.due("stage " + more + " of a life of " + there, s.stage(more), more);
                    CHECK.due("spread " + more + " of a life of " + there, t.spread(more, 3), more);
                } else {
                    CHECK.state("stage " + more + " of a life of " + there, () -> s.stage(n));
                    CHECK.state("spread " + more + " of a life of " + there, () -> t.spread(n, 3));
                    CHECK.due("none came", s.count(5) + t.count(5), 0);
                    int left = 20000 - there;
                    if (left > 0) {
                        CHECK.due("refused ones don't count", s.stage(left), left);
                        CHECK.due("nor by spread", t.spread(left, 1), left);
                    }
                }
            }
        }
        CubeStore s = open();
        for (int i = 0; i < 5; i++) {
            s.spread(4000, i);
            CHECK.due("loads of 20000", s.load(), i + 1);
        }
        CHECK.due("facts", s.count(1), 20000);
        CHECK.state("no more", () -> s.stage(1));
        CHECK.due("choose from 20000", s.choose(3) > 0, true);
        CHECK.due("settle 20000", s.settle() > 0, true);
        CHECK.answers(s, "select count(*);", 1, "20000");
        CHECK.due("audit", s.audit(), 0);
    }

    /** Facts that were dropped, lost by power or recovery, or not loaded for want of room were staged all the same. */
    private static void whatCountsInALife() {
        CubeStore s = Check.opened(16, SMALL);
        s.spread(4096, 1);
        CHECK.due("no room", s.load(), -2);
        s.drop();
        s.spread(4096, 2);
        s.crash(0);
        s.recover();
        s.spread(4096, 3);
        s.recover();
        s.spread(300, 3);
        s.crash(1);
        CHECK.due("cut", s.load(), -3);
        s.recover();
        s.spread(3000, 3);
        for (int i = 0; i < 4; i++) {
            s.drop();
            s.stage(1000);
        }
        CHECK.state("19588 and 413", () -> s.stage(413));
        CHECK.due("19588 and 412", s.stage(412), 1412);
        CHECK.state("no more", () -> s.spread(1, 1));
        s.recover();
        CHECK.state("none after recovery", () -> s.stage(1));
        CHECK.argument("the argument is asked first", () -> s.stage(1001));
    }

    /** "The batch is dropped: how many facts it had." */
    private static void dropped() {
        CubeStore s = open();
        CHECK.due("none", s.drop(), 0);
        s.key(0, 7);
        s.amount(0, 9);
        s.stage(1);
        CHECK.due("one", s.drop(), 1);
        CHECK.due("none again", s.drop(), 0);
        CHECK.due("the fact in the making stays", s.amount(0, 9), 9);
        s.spread(4096, 1);
        s.spread(4096, 1);
        CHECK.due("a full batch", s.drop(), 8192);
        s.stage(1);
        s.load();
        CHECK.due("none after a load", s.drop(), 0);
        CHECK.answers(s, ALL, 5, "7 1 1 9 0");
    }

    /** "The batch is a load, and empty then: how many loads are there"; "or the batch is empty". */
    private static void loaded() {
        CubeStore s = open();
        CHECK.state("load of nothing", () -> s.load());
        CHECK.due("nothing is written", s.writes(), 2);
        s.stage(1);
        CHECK.due("load of one fact", s.load(), 1);
        CHECK.state("the batch is empty then", () -> s.load());
        CHECK.due("one load", s.count(0), 1);
        CHECK.due("facts", s.count(1), 1);
        CHECK.due("extents", s.count(3), 2);
        s.stage(1);
        s.drop();
        CHECK.state("dropped, it is empty, too", () -> s.load());
        s.stage(1);
        s.recover();
        CHECK.state("after recovery, too", () -> s.load());
        for (int n : new int[] {1, 1023, 1024, 1025, 2048, 2049}) {
            s.spread(n, n);
            int loads = s.count(0);
            CHECK.due("load of " + n, s.load(), loads + 1);
            CHECK.due("audit", s.audit(), 0);
        }
        CHECK.answers(s, "select count(*);", 1, "" + (1 + 1 + 1023 + 1024 + 1025 + 2048 + 2049));
    }

    /** "FULL (.. the batch stays)": it can be loaded when there is room, or dropped. */
    private static void batchThatDoesNotFit() {
        String question = "select a.x, b.y, count(*), sum(m), min(k) group by rollup(a.x, b.y);";
        CubeStore s = Check.opened(16, SMALL);
        s.spread(1500, 1);
        s.load();
        s.settle();
        s.key(0, 7);
        s.amount(0, 42);
        s.spread(2000, 2);
        CubeStore t = Check.opened(512, SMALL);
        t.spread(1500, 1);
        t.load();
        t.spread(2000, 2);
        for (int i = 0; i < 3; i++) {
            CHECK.due("no room", s.load(), -2);
            CHECK.due("the batch stays", s.count(5), 2000);
        }
        CHECK.due("the fact in the making, too", s.amount(0, 42), 42);
        s.drop();
        s.stage(1);
        t.drop();
        t.key(0, 7);
        t.amount(0, 42);
        t.stage(1);
        CHECK.due("a lesser load", s.load(), 2);
        CHECK.due("on the greater disk", t.load(), 2);
        CHECK.answers(s, question, 5, Check.answer(t, question, 5));
    }
}
