import java.util.function.Supplier;
import java.util.function.ToIntFunction;

/** Promises 12 to 14 at their bounds: a disk that is full, 200 extents, 100 choices and settlings, 512 views, 16 chosen. */
public final class DiskBoundsTest {
    private static final Check CHECK = new Check("DiskBoundsTest");
    private static final String QUESTION = "select shop.store, day.day, count(*), sum(price), min(n) group by rollup(shop.store, day.day);";
    private static final String ONE = "dimension a(x,y);measure m;member a(1,10),(2,10),(3,20);";

    /** Views of this one have hundreds of rows. */
    private static final String WIDE = "dimension shop(store,city);dimension day(day,month);measure price;measure n;member shop"
        + Check.repeat("(#,1)", 20, ",") + ";member day" + Check.repeat("(#,2)", 30, ",") + ";";

    public static void main(String[] args) {
        loadsThatJustFit();
        choicesThatJustFit();
        settlingsThatJustFit();
        tooLongByAnyAmount();
        rowsOfFreeBlocks();
        farInFront();
        blocksBeforeTheChange();
        lastBlock();
        twoHundredByLoads();
        twoHundredByChoices();
        hundredChanges();
        hundredWithCuts();
        numbersOfViews();
        greatestNumberOfViews();
        eachOfMostViews();
        upToSixteen();
        equalBenefits();
        greatProducts();
        benefitsOfNone();
        widestTables();
        whichExtentsAreNeeded();
        settlingNothing();
        CHECK.end();
    }

    /** How many blocks a change writes on a great disk, without its manifest. */
    private static int blocksOf(int facts, ToIntFunction<CubeStore> change) {
        CubeStore s = filled(512, facts);
        int before = s.writes();
        change.applyAsInt(s);
        return s.writes() - before - 1;
    }

    /** A catalog at block 2 and a load of so many facts behind it; as many facts are in the batch. */
    private static CubeStore filled(int blocks, int facts) {
        CubeStore s = Check.opened(blocks, WIDE);
        s.spread(facts, 1);
        CHECK.due("load of " + facts + " on " + blocks, s.load(), 1);
        s.spread(facts, 2);
        return s;
    }

    /** FULL changes nothing: what the store does from then on is what it does without the change that was FULL. */
    private static void full(String what, Supplier<CubeStore> maker, ToIntFunction<CubeStore> change) {
        CubeStore s = maker.get();
        for (int i = 0; i < 2; i++) {
            CHECK.due(what, change.applyAsInt(s), -2);
        }
        CHECK.due(what + " changes nothing", Trace.future(s, QUESTION).equals(Trace.future(maker.get(), QUESTION)), true);
    }

    /** "FULL = -2: There is no row of free blocks that is long enough; nothing is changed or written." */
    private static void justFits(String what, int facts, ToIntFunction<CubeStore> change, int due) {
        int load = blocksOf(facts, s -> s.load());
        int needed = blocksOf(facts, change);
        CHECK.due(what + " takes some blocks", needed >= 3, true);
        int whole = 2 + 1 + load + needed;
        CHECK.due(what + " needs more than the least disk", whole > 16, true);
        for (int blocks = whole; blocks <= whole + 1; blocks++) {
            CubeStore s = filled(blocks, facts);
            int before = s.writes();
            CHECK.due(what + " on " + blocks, change.applyAsInt(s), due);
            CHECK.due(what + " writes", s.writes() - before, needed + 1);
            CHECK.due("audit", s.audit(), 0);
        }
        for (int blocks = whole - 2; blocks < whole; blocks++) {
            int size = blocks;
            full(what + " on " + blocks, () -> filled(size, facts), change);
        }
    }

    private static void loadsThatJustFit() {
        justFits("load", 2600, s -> s.load(), 2);
        // The second load is of other facts, but weighs as many blocks as the first.
        CHECK.due("blocks of the loads", blocksOf(2600, s -> s.load()), filled(512, 2600).writes() - 3);
    }

    private static void choicesThatJustFit() {
        justFits("choose", 2600, s -> s.choose(3), 3);
    }

    private static void settlingsThatJustFit() {
        int blocks = blocksOf(2600, s -> s.settle());
        justFits("settle", 2600, s -> s.settle(), blocks + 1);
    }

    /** Loads from some that fit to some that are longer than the whole disk: FULL just when they don't fit. */
    private static void tooLongByAnyAmount() {
        String catalog = "dimension a(x);" + Check.repeat("measure m#;", 8, "") + "member a(1),(2),(3);";
        Twin twin = new Twin(16);
        twin.text(catalog);
        twin.run();
        twin.open();
        Model model = twin.model;
        for (int n = 400; n < 2100; n += 5) {
            CubeStore s = Check.opened(16, catalog);
            s.spread(n, 1);
            model.batch.clear();
            model.staged = 0;
            model.spread(n, 1);
            long blocks = (8 + Model.partWeight(model.factRows(model.batch)) + 4095) / 4096;
            CHECK.due("load of " + n + " facts in " + blocks + " blocks", s.load(), blocks > 13 ? -2 : 1);
            CHECK.due("free blocks", s.count(4), blocks > 13 ? 13 : 13 - blocks);
            CHECK.due("settle", s.settle(), blocks > 13 ? 2 : blocks > 6 ? -2 : blocks + 1);
        }
    }

    /** How many facts make a load of so many blocks, found on a great disk. */
    private static int factsFor(int blocks) {
        for (int n = 100; n < 4096; n += 20) {
            CubeStore s = Check.opened(512, Check.SHOPS);
            s.spread(n, 7);
            s.load();
            if (s.writes() - 3 == blocks) {
                return n;
            }
        }
        return 1;
    }

    /** A hole of five blocks (3 to 7) before a settled extent (8 to 12), and some blocks behind it. */
    private static CubeStore withHole(int behind, int five) {
        CubeStore s = Check.opened(13 + behind, Check.SHOPS);
        s.spread(five, 7);
        CHECK.due("load", s.load(), 1);
        CHECK.due("settle", s.settle(), 6);
        CHECK.due("free blocks", s.count(4), 5 + behind);
        return s;
    }

    /** "no row of free blocks that is long enough": there may be blocks enough that don't follow one another. */
    private static void rowsOfFreeBlocks() {
        int five = factsFor(5);
        int six = factsFor(6);
        for (int behind = 4; behind <= 5; behind++) {
            int free = behind;
            full("six blocks, five and " + behind + " are free", () -> {
                CubeStore s = withHole(free, five);
                s.spread(six, 7);
                return s;
            }, s -> s.load());
        }
        CubeStore s = withHole(6, five);
        s.spread(six, 7);
        CHECK.due("six blocks, five and six are free", s.load(), 2);
        CHECK.due("free blocks", s.count(4), 5);
        s.spread(six, 7);
        CHECK.due("six more don't fit", s.load(), -2);
        s.drop();
        s.spread(five, 7);
        CHECK.due("five do", s.load(), 3);
        CHECK.due("no block is free", s.count(4), 0);
        CHECK.due("audit", s.audit(), 0);
    }

    /** "A new extent lies as far in front as it can". */
    private static void farInFront() {
        int five = factsFor(5);
        int six = factsFor(6);
        int two = factsFor(2);
        int three = factsFor(3);
        CubeStore s = withHole(6, five);
        s.spread(five, 7);
        CHECK.due("five blocks go to the front", s.load(), 2);
        s.spread(six, 7);
        CHECK.due("so six fit behind", s.load(), 3);
        CHECK.due("no block is free", s.count(4), 0);
        CubeStore t = withHole(6, five);
        t.spread(two, 7);
        CHECK.due("two blocks go to the front", t.load(), 2);
        t.spread(three, 7);
        CHECK.due("three behind them", t.load(), 3);
        t.spread(six, 7);
        CHECK.due("six behind all", t.load(), 4);
        CHECK.due("no block is free", t.count(4), 0);
        CubeStore u = withHole(6, five);
        u.spread(three, 7);
        CHECK.due("three blocks go to the front", u.load(), 2);
        u.spread(three, 7);
        CHECK.due("three more don't fit there", u.load(), 3);
        u.spread(six, 7);
        CHECK.due("so six don't fit any more", u.load(), -2);
        u.drop();
        u.spread(two, 7);
        CHECK.due("two do in front", u.load(), 4);
        u.spread(three, 7);
        CHECK.due("three behind", u.load(), 5);
        CHECK.due("no block is free", u.count(4), 0);
    }

    /** "among blocks that are in no extent that is there (before the change)": what the change sets free is of no use. */
    private static void blocksBeforeTheChange() {
        int load = blocksOf(2600, s -> s.load());
        int choice = blocksOf(2600, s -> s.choose(3));
        int disk = 2 + 1 + load + choice;
        for (int more = 0; more <= choice; more++) {
            CubeStore s = filled(disk + more, 2600);
            CHECK.due("choose", s.choose(3), 3);
            int before = s.writes();
            CHECK.due("choose again with " + more + " free blocks", s.choose(3), more < choice ? -2 : 3);
            CHECK.due("writes", s.writes() - before, more < choice ? 0 : choice + 1);
            CHECK.due("views", s.count(2), 3);
            CHECK.due("free blocks", s.count(4), more);
            CHECK.due("a choice of none sets blocks free", s.choose(0), 0);
            CHECK.due("free blocks then", s.count(4), more + choice);
            CHECK.due("then it can be", s.choose(3), 3);
        }
        int settled = blocksOf(2600, s -> s.settle());
        CHECK.due("settling is as long as the load", settled, load);
        for (int more = 0; more <= 1; more++) {
            CubeStore s = filled(2 + 1 + 2 * load - 1 + more, 2600);
            s.drop();
            CHECK.due("settle with " + (load - 1 + more) + " free blocks", s.settle(), more == 0 ? -2 : load + 1);
            CHECK.due("settle again", s.settle(), more == 0 ? -2 : load + 1);
        }
    }

    /** A manifest alone needs no free block. */
    private static void lastBlock() {
        CubeStore s = Check.opened(16, ONE);
        for (int i = 1; i <= 13; i++) {
            s.stage(3);
            CHECK.due("load", s.load(), i);
        }
        CHECK.due("no block is free", s.count(4), 0);
        s.stage(3);
        CHECK.due("load", s.load(), -2);
        CHECK.due("choose", s.choose(1), -2);
        CHECK.due("settle", s.settle(), -2);
        int writes = s.writes();
        CHECK.due("choose none", s.choose(0), 0);
        CHECK.due("a manifest was written", s.writes() - writes, 1);
        CHECK.due("the batch is there", s.count(5), 3);
        CHECK.answers(s, "select count(*);", 1, "39");
        CHECK.due("recover", s.recover(), 13);
        CHECK.due("audit", s.audit(), 0);
    }

    private static CubeStore manyLoads(int loads, int views) {
        CubeStore s = Check.opened(300, ONE);
        for (int i = 0; i < loads; i++) {
            s.key(0, 1 + i % 3);
            s.stage(4);
            s.load();
        }
        if (views > 0) {
            s.choose(views);
        }
        s.stage(2);
        return s;
    }

    /** "At most 200 extents are there"; load(): "FULL (also if there are 200 extents; the batch stays)". */
    private static void twoHundredByLoads() {
        CubeStore s = manyLoads(198, 0);
        CHECK.due("extents", s.count(3), 199);
        CHECK.due("the 200th extent", s.load(), 199);
        CHECK.due("extents", s.count(3), 200);
        full("load at 200 extents", () -> manyLoads(199, 0), t -> t.load());
        full("choose at 200 extents", () -> manyLoads(199, 0), t -> t.choose(1));
        full("choose(16) at 200 extents", () -> manyLoads(199, 0), t -> t.choose(16));
        CubeStore t = manyLoads(199, 0);
        CHECK.due("there are free blocks", t.count(4), 98);
        CHECK.due("load", t.load(), -2);
        CHECK.due("the batch stays", t.count(5), 2);
        CHECK.due("choose none", t.choose(0), 0);
        CHECK.due("extents", t.count(3), 200);
        CHECK.due("settle", t.settle(), 2);
        CHECK.due("extents", t.count(3), 2);
        CHECK.due("then the load fits", t.load(), 200);
        CHECK.due("and a choice", t.choose(2), 2);
        CHECK.due("audit", t.audit(), 0);
        CHECK.due("recover", t.recover(), 200);
        CHECK.answers(t, "select a.x, count(*) group by rollup(a.x);", 2, "1 270 / 2 264 / 3 264 / - 798");
    }

    /** choose(): "FULL also if there would be more than 200 extents": its own takes the place of the choice before. */
    private static void twoHundredByChoices() {
        CubeStore s = manyLoads(198, 0);
        CHECK.due("the 200th extent is a choice", s.choose(2), 2);
        CHECK.due("extents", s.count(3), 200);
        CHECK.due("another choice instead", s.choose(1), 1);
        CHECK.due("extents", s.count(3), 200);
        full("load behind a choice", () -> manyLoads(198, 2), t -> t.load());
        CHECK.due("recover", s.recover(), 198);
        CHECK.due("a third choice", s.choose(3), 3);
        CHECK.due("audit", s.audit(), 0);
        CHECK.due("no choice", s.choose(0), 0);
        CHECK.due("extents", s.count(3), 199);
        s.stage(1);
        CHECK.due("a load instead", s.load(), 199);
        CHECK.due("no room for a choice", s.choose(1), -2);
    }

    private static CubeStore withFacts() {
        CubeStore s = Check.opened(64, ONE);
        s.stage(10);
        s.load();
        return s;
    }

    /** "or there were 100 choices and settlings in this life". */
    private static void hundredChanges() {
        for (int kind = 0; kind < 4; kind++) {
            CubeStore s = withFacts();
            for (int i = 0; i < 100; i++) {
                boolean settles = kind == 1 || kind >= 2 && i % 2 == 0;
                if (i == 50 && kind == 3) {
                    s.recover();
                }
                if (settles) {
                    CHECK.due("settle " + i, s.settle(), 2);
                } else {
                    CHECK.due("choose " + i, s.choose(i % 3), i % 3);
                }
                CHECK.argument("those out of bounds don't count", () -> s.choose(17));
            }
            int views = s.count(2);
            CHECK.state("settle 101", () -> s.settle());
            CHECK.state("choose 101", () -> s.choose(1));
            CHECK.state("choose none", () -> s.choose(0));
            s.recover();
            CHECK.state("after recovery", () -> s.settle());
            CHECK.due("views stay", s.count(2), views);
            s.stage(1);
            CHECK.due("loads go on", s.load(), 2);
            CHECK.due("audit", s.audit(), 0);
        }
    }

    /** "(those that were CUT, too; not those that were FULL)". */
    private static void hundredWithCuts() {
        CubeStore s = withFacts();
        for (int i = 0; i < 100; i++) {
            s.crash(1 + i % 2);
            CHECK.due("cut", i % 3 == 0 ? s.settle() : s.choose(2), -3);
            CHECK.due("recover", s.recover(), 1);
        }
        CHECK.state("settle 101", () -> s.settle());
        CHECK.state("choose 101", () -> s.choose(0));
        CubeStore t = Check.opened(16, ONE);
        for (int i = 0; i < 13; i++) {
            t.stage(3);
            t.load();
        }
        for (int i = 0; i < 99; i++) {
            CHECK.due("full", t.choose(1), -2);
            CHECK.due("full", t.settle(), -2);
            CHECK.due("none", t.choose(0), 0);
        }
        CHECK.due("the hundredth", t.choose(0), 0);
        CHECK.state("no more, full or not", () -> t.choose(1));
        CHECK.state("no settling", () -> t.settle());
        CubeStore u = withFacts();
        for (int i = 0; i < 99; i++) {
            u.choose(0);
        }
        u.crash(1);
        CHECK.due("the hundredth is cut", u.choose(0), -3);
        u.recover();
        CHECK.state("no more", () -> u.choose(0));
    }

    private static CubeStore withLevels(String levels) {
        CubeStore s = new CubeStore(64);
        for (int d = 0; d < levels.length(); d++) {
            int n = levels.charAt(d) - '0';
            Check.run(s, "dimension d" + d + "(" + "p,q,r,s".substring(0, 2 * n - 1) + ");member d" + d + "(1" + ",1".repeat(n - 1) + "),(2"
                + ",1".repeat(n - 1) + ");");
        }
        Check.run(s, "measure m;");
        s.open();
        s.spread(200, 5);
        s.load();
        return s;
    }

    /** "there are more than 512 views": 500, 512 and 540 are those next to the bound that a catalog can have. */
    private static void numbersOfViews() {
        String[] fine = {"1", "22222", "11111111", "4443", "33331", "31111111"};
        for (String levels : fine) {
            CubeStore s = withLevels(levels);
            CHECK.due("choose among views of " + levels, s.choose(1), 1);
            CHECK.due("audit", s.audit(), 0);
        }
        for (String levels : new String[] {"43222", "44441", "2222222", "44444444", "32111111"}) {
            CubeStore s = withLevels(levels);
            int views = 1;
            for (char c : levels.toCharArray()) {
                views *= c - '0' + 1;
            }
            CHECK.due("more than 512", views > 512, true);
            int writes = s.writes();
            CHECK.state("choose among " + views, () -> s.choose(1));
            CHECK.state("choose none among " + views, () -> s.choose(0));
            CHECK.argument("the argument first", () -> s.choose(17));
            CHECK.due("nothing is written", s.writes(), writes);
            CHECK.due("settle", s.settle() > 0, true);
        }
    }

    /** Choosing from 512 views gives what the rule says, to the last view. */
    private static void greatestNumberOfViews() {
        for (String levels : new String[] {"33331", "4443", "11111111", "13333"}) {
            Twin twin = new Twin(512);
            for (int d = 0; d < levels.length(); d++) {
                int n = levels.charAt(d) - '0';
                StringBuilder members = new StringBuilder();
                for (int i = 0; i < 2 + d; i++) {
                    members.append(i == 0 ? "(" : ",(").append(i);
                    for (int l = 1; l < n; l++) {
                        members.append(",").append(i >> l);
                    }
                    members.append(")");
                }
                twin.text("dimension d" + d + "(" + "p,q,r,s".substring(0, 2 * n - 1) + ");member d" + d + members + ";");
                twin.run();
            }
            twin.text("measure m;");
            twin.run();
            twin.open();
            twin.spread(700, 3);
            twin.load();
            twin.choose(16);
            twin.look();
            twin.spread(50, 4);
            twin.load();
            twin.settle();
            twin.look();
            twin.text("select d0.p, count(*), sum(m) group by rollup(d0.p);");
            twin.run();
            twin.audit();
            CHECK.due("views of " + levels + ": " + twin.difference, twin.difference == null, true);
        }
    }

    /**
     * Of 512 views all count. Five facts; views that have the first dimension's members have two rows at most, all others
     * one. View 0 saves 3 at 512 views, the one with the first dimension at its second level 4 at 384: that is the same.
     * Behind these two nothing is left to save.
     */
    private static void eachOfMostViews() {
        CubeStore s = fiveOf512Views("(1,1,1),(2,1,1)");
        CHECK.due("choose(1)", s.choose(1), 1);
        CHECK.due("view 0 at the first dimension", s.view(0, 0), 0);
        CHECK.due("choose(16)", s.choose(16), 2);
        for (int d = 0; d < 5; d++) {
            CHECK.due("the first at " + d, s.view(0, d), 0);
            CHECK.due("the second at " + d, s.view(1, d), d == 0 ? 1 : 0);
        }
        CHECK.due("with one member each view 0 is as good as all", fiveOf512Views("(1,1,1)").choose(16), 1);
    }

    private static CubeStore fiveOf512Views(String members) {
        CubeStore s = new CubeStore(64);
        Check.run(s, "dimension d0(p,q,r);measure m;member d0" + members + ";");
        Check.run(s, "dimension d1(p,q,r);member d1(1,1,1);dimension d2(p,q,r);member d2(1,1,1);");
        Check.run(s, "dimension d3(p,q,r);member d3(1,1,1);dimension d4(p);member d4(1);");
        s.open();
        s.stage(5);
        s.load();
        return s;
    }

    /** "Chooses up to k views"; "k is not 0 .. 16"; "numbered 0, 1, .. as they were chosen". */
    private static void upToSixteen() {
        CubeStore all = Check.opened(512, "dimension a(p,q,r,s);dimension b(p,q,r,s);measure m;member a"
            + members(64) + ";member b" + members(48) + ";");
        all.spread(4096, 1);
        all.load();
        CHECK.due("sixteen of 25", all.choose(16), 16);
        int[][] due = new int[16][2];
        for (int i = 0; i < 16; i++) {
            for (int d = 0; d < 2; d++) {
                due[i][d] = all.view(i, d);
            }
        }
        for (int k = 0; k <= 16; k++) {
            CHECK.due("choose " + k, all.choose(k), k);
            CHECK.due("chosen", all.count(2), k);
            for (int i = 0; i < k; i++) {
                CHECK.due("view " + i + " of " + k, all.view(i, 0) * 10 + all.view(i, 1), due[i][0] * 10 + due[i][1]);
            }
            int chosen = k;
            CHECK.argument("none behind them", () -> all.view(chosen, 0));
        }
        CHECK.argument("choose 17", () -> all.choose(17));
        CHECK.due("those that were stay", all.count(2), 16);
        CHECK.due("audit", all.audit(), 0);
        CubeStore few = withFacts();
        CHECK.due("there are three views in all", few.choose(16), 3);
        CHECK.due("three of three", few.choose(3), 3);
        CHECK.due("two of three", few.choose(2), 2);
    }

    private static String members(int n) {
        StringBuilder all = new StringBuilder();
        for (int i = 0; i < n; i++) {
            all.append(i == 0 ? "(" : ",(").append(i).append(",").append(i / 2).append(",").append(i / 8).append(",").append(i / 32).append(")");
        }
        return all.toString();
    }

    /** "of equal ones that with the least number". */
    private static void equalBenefits() {
        CubeStore s = Check.opened(64, "dimension a(x);dimension b(x);dimension c(x);measure m;member a(1),(2);member b(1),(2);member c(1),(2);");
        s.spread(100, 1);
        s.load();
        // Estimates are 8 4 4 2 4 2 2 1. View 0 saves 92 eight times. Then 1, 2 and 4 save 16 each; behind 1 the views 2,
        // 4 and 6 save 8 each; behind 2 the views 3, 4, 5 and 6 save 4 each.
        CHECK.due("choose", s.choose(4), 4);
        int[] due = {0, 1, 2, 3};
        for (int i = 0; i < 4; i++) {
            CHECK.due("view " + i, s.view(i, 0) * 4 + s.view(i, 1) * 2 + s.view(i, 2), due[i]);
        }
    }

    /** "the product (however great)": 256 members of each of eight dimensions are 2 to the 64th, 1000 even more. */
    private static void greatProducts() {
        for (int members : new int[] {256, 1000}) {
            CubeStore s = new CubeStore(512);
            for (int d = 0; d < 8; d++) {
                Check.run(s, "dimension d" + d + "(x);member d" + d + Check.repeat("(#)", members, ",") + ";");
            }
            Check.run(s, "measure m;");
            s.open();
            s.spread(100, 1);
            s.load();
            CHECK.due("only the view of nothing is smaller than 100 facts", s.choose(16), 1);
            for (int d = 0; d < 8; d++) {
                CHECK.due("dimension " + d, s.view(0, d), 1);
            }
            s.spread(4096, 2);
            s.load();
            CHECK.due("now those of one dimension are, too", s.choose(16), 9);
            // Each of one dimension saves at itself and at the view of nothing; dimension 0 alone has the least number.
            for (int d = 0; d < 8; d++) {
                CHECK.due("dimension " + d + " of the first", s.view(0, d), d == 0 ? 0 : 1);
            }
            CHECK.due("audit", s.audit(), 0);
        }
    }

    /** "if that is not 0": no view without facts, none that would not be smaller. */
    private static void benefitsOfNone() {
        CubeStore s = Check.opened(64, ONE);
        int writes = s.writes();
        CHECK.due("without facts", s.choose(16), 0);
        CHECK.due("a manifest alone", s.writes() - writes, 1);
        s.stage(1);
        s.load();
        CHECK.due("with one fact", s.choose(16), 0);
        CHECK.due("extents", s.count(3), 2);
        s.stage(1);
        s.load();
        CHECK.due("with two", s.choose(16), 1);
        CHECK.due("which has no dimension", s.view(0, 0), 2);
        CHECK.answers(s, "select count(*);", 1, "2");
        CHECK.due("served by it", s.served(), 0);
        CHECK.answers(s, "select a.y group by a.y;", 1, "10");
        CHECK.due("it can't tell that", s.served(), -1);
    }

    /** Tables of all eight dimensions and eight measures: 16 columns of facts, 8 + 1 + 24 of a view. */
    private static void widestTables() {
        CubeStore s = new CubeStore(64);
        for (int d = 0; d < 8; d++) {
            Check.run(s, "dimension d" + d + "(x);measure m" + d + ";member d" + d + "(5" + d + "),(6" + d + ");");
        }
        s.open();
        for (int i = 0; i < 8; i++) {
            s.key(i, 60 + i);
            s.amount(i, 1000 - i);
            s.stage(100);
        }
        s.load();
        CHECK.due("choose", s.choose(1), 1);
        for (int d = 0; d < 8; d++) {
            CHECK.due("the view has dimension " + d, s.view(0, d), 0);
        }
        String question = "select d0.x, d7.x, count(*), sum(m7), min(m7), max(m7), max(m0) where d1.x<>0 and d2.x<>0 and d3.x<>0 and d4.x<>0"
            + " and d5.x<>0 and d6.x<>0 group by d0.x, d7.x;";
        for (int i = 0; i < 3; i++) {
            CHECK.answers(s, question, 7, "60 57 700 0 0 0 1000 / 60 67 100 99300 993 993 1000");
            CHECK.due("from the view", s.served(), 0);
            CHECK.due("audit", s.audit(), 0);
            s.settle();
        }
    }

    /** "Extents of loads are needed .. as long as there is no settling; that of a choice until the next choice or
     * settling." */
    private static void whichExtentsAreNeeded() {
        CubeStore s = Check.opened(64, ONE);
        int[] due = {2, 3, 4, 4, 5, 5, 4, 4, 5, 2, 3, 4, 3, 2, 2};
        int[] got = new int[due.length];
        int at = 0;
        s.stage(9);
        s.load();
        got[at++] = s.count(3);
        s.stage(9);
        s.load();
        got[at++] = s.count(3);
        s.choose(2);
        got[at++] = s.count(3);
        s.choose(3);
        got[at++] = s.count(3);
        s.stage(9);
        s.load();
        got[at++] = s.count(3);
        s.choose(1);
        got[at++] = s.count(3);
        s.choose(0);
        got[at++] = s.count(3);
        s.choose(0);
        got[at++] = s.count(3);
        s.choose(2);
        got[at++] = s.count(3);
        s.settle();
        got[at++] = s.count(3);
        s.choose(1);
        got[at++] = s.count(3);
        s.stage(1);
        s.load();
        got[at++] = s.count(3);
        s.choose(0);
        got[at++] = s.count(3);
        s.settle();
        got[at++] = s.count(3);
        s.settle();
        got[at++] = s.count(3);
        for (int i = 0; i < due.length; i++) {
            CHECK.due("extents at " + i, got[i], due[i]);
        }
        CHECK.due("free blocks", s.count(4), 60);
        CHECK.due("loads", s.count(0), 4);
        CHECK.due("audit", s.audit(), 0);
        s.recover();
        CHECK.due("extents after recovery", s.count(3), 2);
        CHECK.due("loads after recovery", s.count(0), 4);
    }

    /** "one part of the facts' table with all facts (none, too)". */
    private static void settlingNothing() {
        CubeStore s = Check.opened(16, ONE);
        for (int i = 1; i <= 20; i++) {
            CHECK.due("settle", s.settle(), 2);
            CHECK.due("extents", s.count(3), 2);
            CHECK.due("free blocks", s.count(4), 12);
            CHECK.due("writes", s.writes(), 2 + 2 * i);
        }
        CHECK.due("recover", s.recover(), 0);
        CHECK.due("no facts", s.count(1), 0);
        CHECK.answers(s, "select count(*), min(m);", 2, "0 -");
        CHECK.due("audit", s.audit(), 0);
        s.stage(2);
        CHECK.due("the first load", s.load(), 1);
        CHECK.answers(s, "select count(*), min(m);", 2, "2 0");
    }
}
