import java.util.ArrayList;
import java.util.Arrays;
import java.util.List;
import java.util.TreeMap;
import java.util.function.IntBinaryOperator;
import java.util.function.Predicate;

/** The document once more, with lists and recursion: a second opinion for ModelTest. */
final class ReferencePlans {
    private static final class Overflow extends RuntimeException {
        private static final long serialVersionUID = 1L;
    }

    private interface Giver {
        List<int[]> rows();
    }

    private static final class Node {
        final int width;
        final Giver giver;
        boolean used = false;

        Node(int width, Giver giver) {
            this.width = width;
            this.giver = giver;
        }

        boolean has(int column) {
            return 0 <= column && column < width;
        }

        List<int[]> rows() {
            List<int[]> rows = giver.rows();
            if (rows.size() > 20) {
                throw new Overflow();
            }
            return rows;
        }
    }

    private final List<List<int[]>> tables = List.of(new ArrayList<>(), new ArrayList<>(), new ArrayList<>());
    private final List<Node> nodes = new ArrayList<>();
    private List<int[]> result = List.of();
    private int resultWidth = 0;

    /** Carries out the call; clearPlan answers 0. */
    int call(Call call) {
        int a = call.argument(0);
        int b = call.argument(1);
        int c = call.argument(2);
        int d = call.argument(3);
        switch (call.name()) {
            case "insert": return insert(a, b, c, d);
            case "empty": return empty(a);
            case "scan": return scan(a);
            case "filter": return filter(a, b, c, d);
            case "extend": return extend(a, b, c, d);
            case "pick": return pick(a, b, c, d);
            case "join": return join(a, b, c, d);
            case "semi": return match(a, b, c, d, true);
            case "anti": return match(a, b, c, d, false);
            case "group": return group(a, b, c, d);
            case "distinct": return distinct(a);
            case "union": return union(a, b);
            case "clearPlan": nodes.clear(); return 0;
            case "run": return run(a);
            case "width": return resultWidth;
            default: return cell(a, b);
        }
    }

    int resultRows() {
        return result.size();
    }

    private int insert(int table, int a, int b, int c) {
        if (table < 0 || table > 2) return -1;
        if (tables.get(table).size() == 6) return -2;
        tables.get(table).add(new int[] {a, b, c});
        return tables.get(table).size();
    }

    private int empty(int table) {
        if (table < 0 || table > 2) return -1;
        int had = tables.get(table).size();
        tables.get(table).clear();
        return had;
    }

    private int made(Node node, Node... inputs) {
        if (nodes.size() == 12) return -2;
        for (Node input : inputs) input.used = true;
        nodes.add(node);
        return nodes.size() - 1;
    }

    private boolean missing(int node) {
        return node < 0 || node >= nodes.size();
    }

    private int scan(int table) {
        if (table < 0 || table > 2) return -1;
        return made(new Node(3, () -> new ArrayList<>(tables.get(table))));
    }

    private static List<int[]> kept(Node n, Predicate<int[]> test) {
        List<int[]> rows = new ArrayList<>();
        for (int[] row : n.rows()) if (test.test(row)) rows.add(row);
        return rows;
    }

    private int filter(int node, int column, int comparison, int constant) {
        if (missing(node)) return -3;
        Node n = nodes.get(node);
        if (n.used) return -4;
        if (!n.has(column)) return -5;
        List<Predicate<int[]>> tests = List.of(r -> r[column] == constant, r -> r[column] != constant,
            r -> r[column] < constant, r -> r[column] <= constant,
            r -> r[column] > constant, r -> r[column] >= constant);
        if (comparison < 0 || comparison > 5) return -6;
        return made(new Node(n.width, () -> kept(n, tests.get(comparison))), n);
    }

    private int extend(int node, int op, int a, int b) {
        if (missing(node)) return -3;
        Node n = nodes.get(node);
        if (n.used) return -4;
        if (op < 0 || op > 4) return -6;
        if (!n.has(a) || !n.has(b)) return -5;
        if (n.width == 6) return -7;
        List<IntBinaryOperator> ops = List.of((x, y) -> x + y, (x, y) -> x - y, (x, y) -> x * y, Math::min, Math::max);
        return made(new Node(n.width + 1, () -> {
            List<int[]> rows = new ArrayList<>();
            for (int[] row : n.rows()) {
                rows.add(joined(row, new int[] {ops.get(op).applyAsInt(row[a], row[b])}));
            }
            return rows;
        }), n);
    }

    private int pick(int node, int first, int second, int third) {
        if (missing(node)) return -3;
        Node n = nodes.get(node);
        if (n.used) return -4;
        if (!n.has(first) || second != -1 && !n.has(second) || third != -1 && !n.has(third)) return -5;
        int[] columns = Arrays.stream(new int[] {first, second, third}).filter(c -> c != -1).toArray();
        return made(new Node(columns.length, () -> {
            List<int[]> rows = new ArrayList<>();
            for (int[] row : n.rows()) rows.add(Arrays.stream(columns).map(c -> row[c]).toArray());
            return rows;
        }), n);
    }

    private static int[] joined(int[] x, int[] y) {
        int[] row = Arrays.copyOf(x, x.length + y.length);
        System.arraycopy(y, 0, row, x.length, y.length);
        return row;
    }

    private int twoInputs(int left, int right) {
        if (missing(left) || missing(right)) return -3;
        return nodes.get(left).used || nodes.get(right).used || left == right ? -4 : 0;
    }

    private int join(int left, int right, int lc, int rc) {
        if (twoInputs(left, right) != 0) return twoInputs(left, right);
        Node l = nodes.get(left);
        Node r = nodes.get(right);
        if (!l.has(lc) || !r.has(rc)) return -5;
        if (l.width + r.width > 6) return -7;
        return made(new Node(l.width + r.width, () -> {
            List<int[]> rows = new ArrayList<>();
            List<int[]> ys = r.rows();
            for (int[] x : l.rows()) for (int[] y : ys) if (x[lc] == y[rc]) rows.add(joined(x, y));
            return rows;
        }), l, r);
    }

    private int match(int left, int right, int lc, int rc, boolean wanted) {
        if (twoInputs(left, right) != 0) return twoInputs(left, right);
        Node l = nodes.get(left);
        Node r = nodes.get(right);
        if (!l.has(lc) || !r.has(rc)) return -5;
        return made(new Node(l.width, () -> {
            List<int[]> ys = r.rows();
            return kept(l, x -> ys.stream().anyMatch(y -> y[rc] == x[lc]) == wanted);
        }), l, r);
    }

    private int group(int node, int key, int function, int value) {
        if (missing(node)) return -3;
        Node n = nodes.get(node);
        if (n.used) return -4;
        if (!n.has(key) || !n.has(value)) return -5;
        if (function < 0 || function > 3) return -6;
        return made(new Node(2, () -> {
            TreeMap<Integer, List<Integer>> groups = new TreeMap<>();
            for (int[] row : n.rows()) groups.computeIfAbsent(row[key], k -> new ArrayList<>()).add(row[value]);
            List<int[]> rows = new ArrayList<>();
            groups.forEach((k, values) -> rows.add(new int[] {k, aggregate(function, values)}));
            return rows;
        }), n);
    }

    private static int aggregate(int function, List<Integer> values) {
        switch (function) {
            case 0: return (int) values.stream().mapToLong(v -> v).sum();
            case 1: return values.size();
            case 2: return values.stream().mapToInt(v -> v).min().getAsInt();
            default: return values.stream().mapToInt(v -> v).max().getAsInt();
        }
    }

    private int distinct(int node) {
        if (missing(node)) return -3;
        Node n = nodes.get(node);
        if (n.used) return -4;
        return made(new Node(n.width, () -> {
            TreeMap<int[], Boolean> rows = new TreeMap<>(Arrays::compare);
            for (int[] row : n.rows()) rows.put(row, true);
            return new ArrayList<>(rows.keySet());
        }), n);
    }

    private int union(int left, int right) {
        if (twoInputs(left, right) != 0) return twoInputs(left, right);
        Node l = nodes.get(left);
        Node r = nodes.get(right);
        if (l.width != r.width) return -7;
        return made(new Node(l.width, () -> {
            List<int[]> rows = new ArrayList<>(l.rows());
            rows.addAll(r.rows());
            return rows;
        }), l, r);
    }

    private int run(int root) {
        if (missing(root)) return -3;
        try {
            List<int[]> rows = new ArrayList<>(nodes.get(root).rows());
            rows.sort(Arrays::compare);
            result = rows;
            resultWidth = nodes.get(root).width;
            return rows.size();
        } catch (Overflow overflow) {
            return -8;
        }
    }

    private int cell(int row, int column) {
        boolean there = 0 <= row && row < result.size() && 0 <= column && column < resultWidth;
        return there ? result.get(row)[column] : 0;
    }
}
