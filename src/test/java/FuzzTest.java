import java.util.ArrayList;
import java.util.List;
import java.util.Random;

/**
 * Random runs, the same ones each time, on the store and the model: catalogs, texts with and without
 * faults, loads, choices, settlings and power cuts, and all that can be asked in between.
 */
public final class FuzzTest {
    private static final String[] WORDS = {"dimension", "measure", "member", "select", "where", "group", "by", "rollup",
        "cube", "grouping", "sum", "count", "min", "max", "and", "or", "not", "between", "in", "a", "b", "c", "m", "n",
        "x", "y", "zzz", "Select", "a1_", "_", "(", ")", ",", ";", ".", "*", "=", "<", ">", "<=", ">=", "<>", "-", "-3",
        "0", "7", "2147483647", "2147483648", "-2147483648", "-2147483649", "-21474836480", "21474836480",
        "00000000000000000012", "#", "\u00e9", "\t",
        "\n", "\r", " ", "abcdefghijklmnopqrstuvwxyzabcdefghijklmn", "abcdefghijklmnopqrstuvwxyzabcdefghijklmno"};

    private final Random random;
    private final Twin twin;
    private final List<String> dimNames = new ArrayList<>();
    private final List<List<String>> levelNames = new ArrayList<>();
    private final List<String> measureNames = new ArrayList<>();

    private FuzzTest(long seed) {
        random = new Random(seed);
        int[] sizes = {16, 20, 40, 100, 512, 3, 600};
        twin = new Twin(sizes[random.nextInt(sizes.length)]);
    }

    public static void main(String[] args) {
        int runs = args.length > 0 ? Integer.parseInt(args[0]) : 400;
        long from = args.length > 1 ? Long.parseLong(args[1]) : 0;
        int wrong = 0;
        for (long seed = from; seed < from + runs && wrong < 5; seed++) {
            FuzzTest test = new FuzzTest(seed);
            test.go();
            if (test.twin.difference != null) {
                wrong++;
                List<String> log = test.twin.log;
                System.out.println("seed " + seed + ": " + test.twin.difference);
                log.stream().filter(l -> !l.startsWith("feed") && !l.startsWith("count") && !l.startsWith("view")
                    && !l.startsWith("cell") && !l.startsWith("isBlank")).limit(400)
                    .forEach(l -> System.out.println("    " + l));
            }
        }
        System.out.println(wrong == 0 ? "FuzzTest: " + runs + " runs alike" : "FuzzTest: differences");
        System.exit(wrong == 0 ? 0 : 1);
    }

    private boolean chance(int percent) {
        return random.nextInt(100) < percent;
    }

    private void go() {
        int calls = 20 + random.nextInt(60);
        for (int i = 0; i < calls && twin.difference == null; i++) {
            int state = twin.model.state;
            if (state == 2) {
                if (chance(60)) {
                    twin.recover();
                } else {
                    anyCall();
                }
            } else if (state == 0) {
                if (chance(85)) {
                    tellCatalog();
                } else {
                    anyCall();
                }
            } else {
                openCall();
            }
            twin.look();
        }
    }

    private String name(String base) {
        return chance(5) ? (base + "_abcdefghijklmnopqrstuvwxyz0123456789ABCDEFGHIJ").substring(0, 40) : base;
    }

    private void tellCatalog() {
        dimNames.clear();
        levelNames.clear();
        measureNames.clear();
        if (twin.model.now.dims.size() + twin.model.now.measures.size() > 0 && chance(70)) {
            twin.recover();
        }
        StringBuilder text = new StringBuilder();
        int dims = chance(10) ? 1 + random.nextInt(8) : 1 + random.nextInt(3);
        int measures = chance(10) ? 8 : 1 + random.nextInt(3);
        int most = chance(15) ? 400 : 20;
        for (int d = 0; d < dims; d++) {
            dimNames.add(name("a" + d));
            List<String> levels = new ArrayList<>();
            int n = 1 + random.nextInt(chance(20) ? 4 : 3);
            for (int l = 0; l < n; l++) {
                levels.add(name(l == 0 ? "x" : "y" + l));
            }
            levelNames.add(levels);
            text.append("dimension ").append(dimNames.get(d)).append(" (").append(String.join(",", levels)).append(");\n");
        }
        for (int m = 0; m < measures; m++) {
            measureNames.add(name("m" + m));
            text.append("measure ").append(measureNames.get(m)).append(';');
        }
        for (int d = 0; d < dims; d++) {
            tellMembers(text, d, 1 + random.nextInt(most));
        }
        String whole = chance(25) ? spoil(text.toString()) : text.toString();
        twin.text(whole);
        twin.run();
        if (chance(80)) {
            if (chance(15)) {
                twin.crash(1 + random.nextInt(4));
            }
            twin.open();
        }
    }

    private void tellMembers(StringBuilder text, int d, int members) {
        int levels = levelNames.get(d).size();
        int[] divisors = {1, 3, 10, 40};
        int stride = 1 + random.nextInt(3);
        int offset = random.nextInt(50) - 25;
        boolean backwards = chance(40);
        for (int i = 0; i < members; i++) {
            boolean cut = i > 0 && chance(3);
            text.append(i == 0 || cut ? (cut ? ";" : "") + "member " + dimNames.get(d) : ",").append('(');
            int k = backwards ? members - 1 - i : i;
            for (int l = 0; l < levels; l++) {
                int value = Math.floorDiv(k, divisors[l]);
                value = l == 0 ? value * stride + offset : l == 1 ? -value * 7 : value;
                text.append(l == 0 ? "" : ", ").append(value);
            }
            text.append(')');
        }
        text.append("; ");
    }

    /** Changes a text here or there, which mostly makes a fault of it. */
    private String spoil(String text) {
        StringBuilder b = new StringBuilder(text);
        int changes = 1 + random.nextInt(2);
        for (int i = 0; i < changes; i++) {
            int at = random.nextInt(b.length() + 1);
            String word = WORDS[random.nextInt(WORDS.length)];
            switch (random.nextInt(5)) {
                case 0:
                    b.insert(at, word);
                    break;
                case 1:
                    b.insert(at, " " + word + " ");
                    break;
                case 2:
                    b.delete(at, Math.min(b.length(), at + 1 + random.nextInt(6)));
                    break;
                case 3:
                    b.setLength(at);
                    break;
                default:
                    int to = Math.min(b.length(), at + 1 + random.nextInt(12));
                    b.insert(at, b.substring(at, to));
            }
        }
        return b.toString();
    }

    private void openCall() {
        switch (random.nextInt(12)) {
            case 0:
            case 1:
            case 2:
                ask();
                break;
            case 3:
            case 4:
                stageSome();
                break;
            case 5:
            case 6:
                stageSome();
                maybeCrash();
                twin.load();
                break;
            case 7:
                maybeCrash();
                twin.choose(random.nextInt(17));
                break;
            case 8:
                maybeCrash();
                twin.settle();
                break;
            case 9:
                twin.audit();
                break;
            case 10:
                if (chance(30)) {
                    twin.recover();
                } else {
                    ask();
                }
                break;
            default:
                anyCall();
        }
    }

    private void maybeCrash() {
        if (chance(12)) {
            twin.crash(random.nextInt(12));
        }
    }

    private void stageSome() {
        int dims = twin.model.now.dims.size();
        int measures = twin.model.now.measures.size();
        if (chance(50)) {
            int whole = 1024 * (1 + random.nextInt(4)) - 1 + random.nextInt(3);
            int n = chance(8) ? whole : 1 + random.nextInt(chance(10) ? 4096 : chance(50) ? 300 : 20);
            twin.spread(n, random.nextLong());
            return;
        }
        int kind = random.nextInt(4);
        for (int i = 0; i < 6; i++) {
            int d = random.nextInt(dims + 1);
            if (d < dims && chance(90)) {
                List<int[]> members = twin.model.now.dims.get(d).members;
                twin.key(d, members.get(random.nextInt(members.size()))[0]);
            } else {
                twin.key(d, random.nextInt(60) - 30);
            }
            long value = kind == 0 ? random.nextLong() : kind == 1 ? random.nextInt(100) - 50 : kind == 2 ? i
                : new long[] {Long.MIN_VALUE, Long.MAX_VALUE, 0, -1}[random.nextInt(4)];
            twin.amount(chance(95) ? random.nextInt(measures) : measures, value);
            twin.stage(chance(80) ? 1 + random.nextInt(4) : random.nextInt(1003));
        }
    }

    private void ask() {
        StringBuilder text = new StringBuilder();
        int questions = chance(80) ? 1 : 2;
        for (int i = 0; i < questions; i++) {
            question(text);
        }
        twin.text(chance(25) ? spoil(text.toString()) : text.toString());
        twin.run();
    }

    private String column() {
        List<Model.Dim> dims = twin.model.now.dims;
        Model.Dim d = dims.get(random.nextInt(dims.size()));
        return d.name + "." + d.levels.get(random.nextInt(d.levels.size()));
    }

    private String measure() {
        return twin.model.now.measures.get(random.nextInt(twin.model.now.measures.size()));
    }

    private void question(StringBuilder text) {
        List<String> columns = new ArrayList<>();
        int wanted = chance(30) ? 0 : 1 + random.nextInt(chance(10) ? 9 : 3);
        for (int i = 0; i < wanted; i++) {
            String c = column();
            if (!columns.contains(c) || chance(2)) {
                columns.add(c);
            }
        }
        List<String> items = new ArrayList<>();
        int n = chance(4) ? 20 + random.nextInt(7) : 1 + random.nextInt(6);
        for (int i = 0; i < n; i++) {
            String c = columns.isEmpty() || chance(1) ? column() : columns.get(random.nextInt(columns.size()));
            String[] kinds = {"sum(" + measure() + ")", "min ( " + measure() + ")", "max(" + measure() + ")", "count(*)",
                "grouping(" + c + ")", c, c};
            items.add(kinds[random.nextInt(columns.isEmpty() && !chance(3) ? 4 : 7)]);
        }
        text.append("select ").append(String.join(", ", items));
        if (chance(50)) {
            text.append(" where ");
            condition(text, random.nextInt(4));
        }
        if (!columns.isEmpty()) {
            text.append(" group by ");
            groups(text, columns);
        }
        text.append(';');
    }

    private void groups(StringBuilder text, List<String> columns) {
        int i = 0;
        while (i < columns.size()) {
            text.append(i == 0 ? "" : ", ");
            int kind = random.nextInt(3);
            int n = kind == 0 ? 1 : Math.min(columns.size() - i, 1 + random.nextInt(columns.size()));
            String list = String.join(", ", columns.subList(i, i + n));
            text.append(kind == 0 ? list : (kind == 1 ? "rollup(" : "cube (") + list + ")");
            i += n;
        }
    }

    private void condition(StringBuilder text, int depth) {
        if (depth == 0 || chance(20)) {
            comparison(text);
            return;
        }
        int kind = random.nextInt(5);
        if (kind == 0) {
            text.append("not ");
            condition(text, depth - 1);
        } else if (kind == 1) {
            text.append("(");
            condition(text, depth - 1);
            text.append(")");
        } else {
            condition(text, depth - 1);
            text.append(kind == 2 ? " or " : " and ");
            condition(text, depth - 1);
        }
    }

    private int number() {
        return chance(2) ? new int[] {Integer.MIN_VALUE, Integer.MAX_VALUE}[random.nextInt(2)] : random.nextInt(70) - 30;
    }

    private void comparison(StringBuilder text) {
        text.append(column());
        String[] signs = {" = ", "<>", " < ", "<=", ">", " >= "};
        int kind = random.nextInt(9);
        if (kind < 6) {
            text.append(signs[kind]).append(number());
        } else if (kind == 6) {
            int low = number();
            text.append(" between ").append(low).append(" and ").append(chance(90) ? (long) low + random.nextInt(30) : number());
        } else {
            text.append(kind == 7 ? " in (" : " not in(");
            int n = chance(3) ? 38 + random.nextInt(5) : 1 + random.nextInt(6);
            for (int i = 0; i < n; i++) {
                text.append(i == 0 ? "" : ", ").append(number());
            }
            text.append(')');
        }
    }

    /** Any call at all, with arguments in and out of bounds. */
    private void anyCall() {
        int a = new int[] {-2, -1, 0, 1, 2, 3, 16, 17, 20, 21, 1000, 1001, 4097, Integer.MIN_VALUE, Integer.MAX_VALUE}
            [random.nextInt(15)];
        switch (random.nextInt(18)) {
            case 0:
                twin.feed(a, random.nextInt(), 0x20202020, random.nextInt(), 0x3b3b3b3b);
                break;
            case 1:
                twin.trim(a);
                break;
            case 2:
                twin.run();
                break;
            case 3:
                twin.fault(a);
                break;
            case 4:
                twin.open();
                break;
            case 5:
                twin.key(a, 0);
                break;
            case 6:
                twin.amount(a, a);
                break;
            case 7:
                twin.stage(a);
                break;
            case 8:
                twin.spread(a, a);
                break;
            case 9:
                twin.drop();
                break;
            case 10:
                twin.load();
                break;
            case 11:
                twin.choose(a);
                break;
            case 12:
                twin.settle();
                break;
            case 13:
                twin.crash(a);
                break;
            case 14:
                twin.answer();
                break;
            case 15:
                twin.audit();
                break;
            case 16:
                twin.cell(a, random.nextInt(4) - 1);
                break;
            default:
                StringBuilder text = new StringBuilder();
                for (int i = 0; i < 12; i++) {
                    text.append(WORDS[random.nextInt(WORDS.length)]).append(' ');
                }
                twin.text(text.toString());
                twin.run();
        }
    }
}
