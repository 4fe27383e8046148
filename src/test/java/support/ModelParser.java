import java.nio.charset.StandardCharsets;
import java.util.ArrayList;
import java.util.Arrays;
import java.util.Collections;
import java.util.List;
import java.util.Map;
import java.util.TreeMap;
import java.util.function.Predicate;

/** Reads and carries out statements for the Model: a tree of conditions, sets as lists, rows in a sorted map. */
final class ModelParser {
    static final class Fault extends RuntimeException {
        final int kind;
        final int place;
        Fault(int kind, int place) {
            super(null, null, false, false);
            this.kind = kind;
            this.place = place;
        }
    }

    static final List<String> RESERVED = Arrays.asList("dimension", "measure", "member", "select", "where", "group",
        "by", "rollup", "cube", "grouping", "sum", "count", "min", "max", "and", "or", "not", "between", "in");
    static final List<String> SIGNS = Arrays.asList("<=", ">=", "<>", "(", ")", ",", ";", ".", "*", "=", "<", ">");

    record Column(int dim, int level) { }
    record Item(String kind, Column column, int measure, int place) { }

    private final Model model;
    private final String text;
    private int at;
    /** The word, number or sign that was read last; empty at the end. */
    private String token = "";
    private int start;
    private int number;
    int done;

    private int comparisons;
    private int brackets;
    private int[] lowest;

    ModelParser(Model model, byte[] bytes) {
        this.model = model;
        this.text = new String(bytes, StandardCharsets.ISO_8859_1);
    }

    private static boolean letter(char c) {
        return c >= 'a' && c <= 'z' || c >= 'A' && c <= 'Z';
    }

    private static boolean digit(char c) {
        return c >= '0' && c <= '9';
    }

    private char peek(int i) {
        return i < text.length() ? text.charAt(i) : 0;
    }

    private boolean isWord() {
        return !token.isEmpty() && letter(token.charAt(0));
    }

    private boolean isNumber() {
        return !token.isEmpty() && (digit(token.charAt(0)) || token.charAt(0) == '-');
    }

    private void next() {
        while (at < text.length() && " \t\n\r".indexOf(text.charAt(at)) >= 0) {
            at++;
        }
        start = at;
        if (at == text.length()) {
            token = "";
            return;
        }
        char c = text.charAt(at);
        int end = at;
        if (letter(c)) {
            while (letter(peek(end)) || digit(peek(end)) || peek(end) == '_') {
                end++;
            }
        } else if (digit(c) || c == '-' && digit(peek(at + 1))) {
            end++;
            while (digit(peek(end))) {
                end++;
            }
            token = text.substring(at, end);
            try {
                number = Integer.parseInt(token);
            } catch (NumberFormatException e) {
                throw new Fault(2, start);
            }
        } else {
            for (String sign : SIGNS) {
                if (end == at && text.startsWith(sign, at)) {
                    end = at + sign.length();
                }
            }
            if (end == at) {
                throw new Fault(1, start);
            }
        }
        token = text.substring(at, end);
        at = end;
    }

    private Fault misfit() {
        return new Fault(token.isEmpty() ? 3 : 4, start);
    }

    private void expect(String wanted) {
        next();
        if (!token.equals(wanted)) {
            throw misfit();
        }
    }

    private int expectNumber() {
        next();
        if (!isNumber()) {
            throw misfit();
        }
        return number;
    }

    private void name() {
        if (!isWord()) {
            throw misfit();
        }
        if (token.length() > 40 || RESERVED.contains(token)) {
            throw new Fault(5, start);
        }
    }

    private int dimHere() {
        name();
        for (int d = 0; d < model.now.dims.size(); d++) {
            if (model.now.dims.get(d).name.equals(token)) {
                return d;
            }
        }
        throw new Fault(5, start);
    }

    private Column columnBehind(int dim) {
        expect(".");
        next();
        name();
        int level = model.now.dims.get(dim).levels.indexOf(token);
        if (level < 0) {
            throw new Fault(5, start);
        }
        return new Column(dim, level);
    }

    private void many(int there, int most) {
        if (there >= most) {
            throw new Fault(7, start);
        }
    }

    void runAll() {
        for (next(); !token.isEmpty(); next()) {
            boolean question = token.equals("select");
            if (!question && !token.equals("dimension") && !token.equals("measure") && !token.equals("member")) {
                throw misfit();
            }
            if (question == (model.state == 0)) {
                throw new Fault(8, start);
            }
            if (question) {
                question();
            } else if (token.equals("dimension")) {
                dimension();
            } else if (token.equals("measure")) {
                measure();
            } else {
                member();
            }
            done++;
        }
    }

    private void newName() {
        next();
        name();
        boolean taken = model.now.measures.contains(token);
        for (Model.Dim d : model.now.dims) {
            taken |= d.name.equals(token);
        }
        if (taken) {
            throw new Fault(6, start);
        }
    }

    private void dimension() {
        newName();
        many(model.now.dims.size(), 8);
        Model.Dim dim = new Model.Dim();
        dim.name = token;
        expect("(");
        do {
            next();
            name();
            if (dim.levels.contains(token)) {
                throw new Fault(6, start);
            }
            many(dim.levels.size(), 4);
            dim.levels.add(token);
            next();
        } while (token.equals(","));
        if (!token.equals(")")) {
            throw misfit();
        }
        expect(";");
        model.now.dims.add(dim);
    }

    private void measure() {
        newName();
        many(model.now.measures.size(), 8);
        String fresh = token;
        expect(";");
        model.now.measures.add(fresh);
    }

    private void member() {
        next();
        Model.Dim dim = model.now.dims.get(dimHere());
        List<int[]> all = new ArrayList<>(dim.members);
        do {
            expect("(");
            many(all.size(), 1000);
            int place = start;
            List<Integer> values = new ArrayList<>();
            do {
                values.add(expectNumber());
                next();
            } while (token.equals(","));
            if (!token.equals(")")) {
                throw misfit();
            }
            if (values.size() != dim.levels.size()) {
                throw new Fault(7, place);
            }
            int[] fresh = values.stream().mapToInt(v -> v).toArray();
            for (int[] other : all) {
                if (other[0] == fresh[0]) {
                    throw new Fault(9, place);
                }
                for (int l = 0; l < fresh.length; l++) {
                    for (int h = l + 1; h < fresh.length; h++) {
                        if (other[l] == fresh[l] && other[h] != fresh[h]) {
                            throw new Fault(9, place);
                        }
                    }
                }
            }
            all.add(fresh);
            next();
        } while (token.equals(","));
        if (!token.equals(";")) {
            throw misfit();
        }
        dim.members = all;
    }

    private Column needed(Column c) {
        lowest[c.dim] = Math.min(lowest[c.dim], c.level);
        return c;
    }

    private void question() {
        int place = start;
        comparisons = 0;
        brackets = 0;
        lowest = new int[model.now.dims.size()];
        Arrays.fill(lowest, 99);
        List<Item> items = new ArrayList<>();
        do {
            next();
            items.add(item(items.size()));
            next();
        } while (token.equals(","));
        Predicate<Model.Fact> condition = f -> true;
        if (token.equals("where")) {
            next();
            condition = or();
        }
        List<Column> columns = new ArrayList<>();
        List<List<Integer>> sets = new ArrayList<>();
        sets.add(List.of());
        if (token.equals("group")) {
            sets = groups(columns);
        }
        if (!token.equals(";")) {
            throw misfit();
        }
        for (Item item : items) {
            if (item.column != null && !columns.contains(item.column)) {
                throw new Fault(11, item.place);
            }
        }
        answer(items, condition, columns, sets, place);
    }

    private Item item(int there) {
        int place = start;
        String kind = token;
        if (!List.of("sum", "min", "max", "count", "grouping").contains(kind)) {
            int dim = dimHere();
            many(there, 24);
            return new Item("column", columnBehind(dim), 0, place);
        }
        many(there, 24);
        expect("(");
        Column column = null;
        int measure = 0;
        if (kind.equals("count")) {
            expect("*");
        } else {
            next();
            if (kind.equals("grouping")) {
                column = columnBehind(dimHere());
            } else {
                name();
                measure = model.now.measures.indexOf(token);
                if (measure < 0) {
                    throw new Fault(5, start);
                }
            }
        }
        expect(")");
        return new Item(kind, column, measure, place);
    }

    /** Condition methods begin at their first token and end behind their last one. */
    private Predicate<Model.Fact> or() {
        Predicate<Model.Fact> p = and();
        while (token.equals("or")) {
            next();
            p = p.or(and());
        }
        return p;
    }

    private Predicate<Model.Fact> and() {
        Predicate<Model.Fact> p = not();
        while (token.equals("and")) {
            next();
            p = p.and(not());
        }
        return p;
    }

    private Predicate<Model.Fact> not() {
        boolean negative = false;
        while (token.equals("not")) {
            negative = !negative;
            next();
        }
        Predicate<Model.Fact> p;
        if (token.equals("(")) {
            many(brackets, 40);
            brackets++;
            next();
            p = or();
            if (!token.equals(")")) {
                throw misfit();
            }
            brackets--;
        } else {
            p = comparison();
        }
        next();
        return negative ? p.negate() : p;
    }

    private Predicate<Model.Fact> comparison() {
        int dim = dimHere();
        many(comparisons, 60);
        comparisons++;
        Column c = needed(columnBehind(dim));
        next();
        switch (token) {
            case "=": {
                int n = expectNumber();
                return f -> f.members()[c.dim][c.level] == n;
            }
            case "<>": {
                int n = expectNumber();
                return f -> f.members()[c.dim][c.level] != n;
            }
            case "<": {
                int n = expectNumber();
                return f -> f.members()[c.dim][c.level] < n;
            }
            case "<=": {
                int n = expectNumber();
                return f -> f.members()[c.dim][c.level] <= n;
            }
            case ">": {
                int n = expectNumber();
                return f -> f.members()[c.dim][c.level] > n;
            }
            case ">=": {
                int n = expectNumber();
                return f -> f.members()[c.dim][c.level] >= n;
            }
            case "between": {
                int low = expectNumber();
                expect("and");
                int high = expectNumber();
                return f -> f.members()[c.dim][c.level] >= low && f.members()[c.dim][c.level] <= high;
            }
            case "in": {
                List<Integer> list = numbers();
                return f -> list.contains(f.members()[c.dim][c.level]);
            }
            case "not": {
                expect("in");
                List<Integer> list = numbers();
                return f -> !list.contains(f.members()[c.dim][c.level]);
            }
            default:
                throw misfit();
        }
    }

    private List<Integer> numbers() {
        expect("(");
        List<Integer> list = new ArrayList<>();
        do {
            int n = expectNumber();
            many(list.size(), 40);
            list.add(n);
            next();
        } while (token.equals(","));
        if (!token.equals(")")) {
            throw misfit();
        }
        return list;
    }

    private List<List<Integer>> groups(List<Column> columns) {
        int place = start;
        expect("by");
        List<List<Integer>> sets = new ArrayList<>();
        sets.add(List.of());
        do {
            next();
            List<List<Integer>> choices = new ArrayList<>();
            int first = columns.size();
            if (token.equals("rollup") || token.equals("cube")) {
                boolean cube = token.equals("cube");
                expect("(");
                do {
                    next();
                    groupColumn(columns);
                    next();
                } while (token.equals(","));
                if (!token.equals(")")) {
                    throw misfit();
                }
                int n = columns.size() - first;
                for (int bits = 0; bits < 1 << n; bits++) {
                    List<Integer> set = new ArrayList<>();
                    for (int i = 0; i < n; i++) {
                        if ((bits >> i & 1) != 0) {
                            set.add(first + i);
                        }
                    }
                    if (cube || (bits & bits + 1) == 0) {
                        choices.add(set);
                    }
                }
            } else {
                groupColumn(columns);
                choices.add(List.of(first));
            }
            List<List<Integer>> joined = new ArrayList<>();
            for (List<Integer> a : sets) {
                for (List<Integer> b : choices) {
                    List<Integer> both = new ArrayList<>(a);
                    both.addAll(b);
                    joined.add(both);
                }
            }
            sets = joined;
            if (sets.size() > 32) {
                throw new Fault(7, place);
            }
            next();
        } while (token.equals(","));
        return sets;
    }

    private void groupColumn(List<Column> columns) {
        int place = start;
        int dim = dimHere();
        many(columns.size(), 8);
        Column c = columnBehind(dim);
        if (columns.contains(c)) {
            throw new Fault(10, place);
        }
        columns.add(needed(c));
    }

    /** A row's values of all group columns; ALL is above every int. */
    private void answer(List<Item> items, Predicate<Model.Fact> condition, List<Column> columns,
            List<List<Integer>> sets, int place) {
        TreeMap<List<Long>, List<Model.Fact>> rows = new TreeMap<>((a, b) -> {
            for (int i = 0; i < a.size(); i++) {
                if (!a.get(i).equals(b.get(i))) {
                    return Long.compare(a.get(i), b.get(i));
                }
            }
            return 0;
        });
        for (List<Integer> set : sets) {
            if (set.isEmpty()) {
                rows.put(new ArrayList<>(Collections.nCopies(columns.size(), Long.MAX_VALUE)), new ArrayList<>());
            }
        }
        for (Model.Fact f : model.now.facts) {
            if (!condition.test(f)) {
                continue;
            }
            for (List<Integer> set : sets) {
                List<Long> key = new ArrayList<>(Collections.nCopies(columns.size(), Long.MAX_VALUE));
                for (int g : set) {
                    key.set(g, (long) f.members()[columns.get(g).dim][columns.get(g).level]);
                }
                rows.computeIfAbsent(key, k -> new ArrayList<>()).add(f);
            }
        }
        if (rows.size() > 4000) {
            throw new Fault(12, place);
        }
        Model.Answer answer = new Model.Answer();
        answer.items = items.size();
        answer.served = model.servedBy(lowest);
        for (Map.Entry<List<Long>, List<Model.Fact>> row : rows.entrySet()) {
            Object[] cells = new Object[items.size()];
            for (int i = 0; i < cells.length; i++) {
                cells[i] = value(items.get(i), columns, row.getKey(), row.getValue());
            }
            answer.rows.add(cells);
        }
        model.answer = answer;
    }

    private static Long value(Item item, List<Column> columns, List<Long> key, List<Model.Fact> facts) {
        long all = Long.MAX_VALUE;
        switch (item.kind) {
            case "column": {
                long v = key.get(columns.indexOf(item.column));
                return v == all ? null : v;
            }
            case "grouping":
                return key.get(columns.indexOf(item.column)) == all ? 1L : 0L;
            case "count":
                return (long) facts.size();
            case "sum":
                return facts.stream().mapToLong(f -> f.amounts()[item.measure]).sum();
            case "min":
                return facts.isEmpty() ? null : (Long) facts.stream().mapToLong(f -> f.amounts()[item.measure]).min().getAsLong();
            default:
                return facts.isEmpty() ? null : (Long) facts.stream().mapToLong(f -> f.amounts()[item.measure]).max().getAsLong();
        }
    }
}
