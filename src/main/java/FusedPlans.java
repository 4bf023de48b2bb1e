public final class FusedPlans {
    public static final int BAD_TABLE = -1;
    public static final int NO_ROOM = -2;
    public static final int BAD_NODE = -3;
    public static final int USED = -4;
    public static final int BAD_COLUMN = -5;
    public static final int BAD_KIND = -6;
    public static final int BAD_WIDTH = -7;
    public static final int OVERFLOW = -8;

    // Every refusal is below 0, so 0 is free to say that there is none.
    private static final int NO_REFUSAL = 0;
    // Stands where a node has no input and where pick leaves a column out.
    private static final int NONE = -1;

    private static final int TABLES = 3;
    private static final int TABLE_ROWS = 6;
    private static final int TABLE_WIDTH = 3;
    private static final int MAX_NODES = 12;
    private static final int MAX_WIDTH = 6;
    private static final int GROUP_WIDTH = 2;
    private static final int MAX_ROWS = 20;
    // One slot above the limit: rows that are too many are written there, and only their number matters.
    private static final int BAG_SLOTS = MAX_ROWS + 1;

    private static final int TABLE_CELLS = TABLES * TABLE_ROWS * TABLE_WIDTH;
    private static final int BAG_CELLS = MAX_NODES * BAG_SLOTS * MAX_WIDTH;
    private static final int RESULT_CELLS = MAX_ROWS * MAX_WIDTH;

    private static final int SCAN = 0;
    private static final int FILTER = 1;
    private static final int EXTEND = 2;
    private static final int PICK = 3;
    private static final int JOIN = 4;
    private static final int SEMI = 5;
    private static final int ANTI = 6;
    private static final int GROUP = 7;
    private static final int DISTINCT = 8;
    private static final int UNION = 9;

    private static final int EQUAL = 0;
    private static final int NOT_EQUAL = 1;
    private static final int LESS = 2;
    private static final int LESS_OR_EQUAL = 3;
    private static final int GREATER = 4;
    private static final int GREATER_OR_EQUAL = 5;

    private static final int PLUS = 0;
    private static final int MINUS = 1;
    private static final int TIMES = 2;
    private static final int LESSER_OF = 3;
    private static final int GREATER_OF = 4;

    private static final int SUM = 0;
    private static final int COUNT = 1;
    private static final int LEAST = 2;
    private static final int GREATEST = 3;

    private final int[] tableCells = new int[TABLE_CELLS];
    private final int[] tableRows = new int[TABLES];

    private int nodeCount;
    private final int[] nodeKind = new int[MAX_NODES];
    private final int[] nodeWidth = new int[MAX_NODES];
    private final int[] nodeLeft = new int[MAX_NODES];
    private final int[] nodeRight = new int[MAX_NODES];
    // The arguments of the call that made the node, without its inputs and in the order of the call.
    private final int[] nodeFirst = new int[MAX_NODES];
    private final int[] nodeSecond = new int[MAX_NODES];
    private final int[] nodeThird = new int[MAX_NODES];
    private final boolean[] nodeUsed = new boolean[MAX_NODES];

    // What the nodes gave in the run that is under way; it means nothing between runs.
    private final boolean[] inPlan = new boolean[MAX_NODES];
    private final int[] bagCells = new int[BAG_CELLS];
    private final int[] bagRows = new int[MAX_NODES];

    private final int[] resultCells = new int[RESULT_CELLS];
    private int resultRows;
    private int resultWidth;

    public FusedPlans() {
        nodeCount = 0;
        resultRows = 0;
        resultWidth = 0;
    }

    public int insert(int table, int a, int b, int c) {
        if (!isTable(table)) {
            return BAD_TABLE;
        }
        int row = tableRows[table];
        if (row >= TABLE_ROWS) {
            return NO_ROOM;
        }
        int start = (table * TABLE_ROWS + row) * TABLE_WIDTH;
        tableCells[start] = a;
        tableCells[start + 1] = b;
        tableCells[start + 2] = c;
        tableRows[table] = row + 1;
        return row + 1;
    }

    public int empty(int table) {
        if (!isTable(table)) {
            return BAD_TABLE;
        }
        int removed = tableRows[table];
        tableRows[table] = 0;
        return removed;
    }

    public int scan(int table) {
        if (!isTable(table)) {
            return BAD_TABLE;
        }
        return addNode(SCAN, TABLE_WIDTH, NONE, NONE, table, 0, 0);
    }

    public int filter(int node, int column, int comparison, int constant) {
        int refusal = inputRefusal(node);
        if (refusal != NO_REFUSAL) {
            return refusal;
        }
        if (!isColumn(node, column)) {
            return BAD_COLUMN;
        }
        if (comparison < EQUAL || comparison > GREATER_OR_EQUAL) {
            return BAD_KIND;
        }
        return addNode(FILTER, nodeWidth[node], node, NONE, column, comparison, constant);
    }

    public int extend(int node, int op, int a, int b) {
        int refusal = inputRefusal(node);
        if (refusal != NO_REFUSAL) {
            return refusal;
        }
        if (op < PLUS || op > GREATER_OF) {
            return BAD_KIND;
        }
        if (!isColumn(node, a) || !isColumn(node, b)) {
            return BAD_COLUMN;
        }
        if (nodeWidth[node] >= MAX_WIDTH) {
            return BAD_WIDTH;
        }
        return addNode(EXTEND, nodeWidth[node] + 1, node, NONE, op, a, b);
    }

    public int pick(int node, int first, int second, int third) {
        int refusal = inputRefusal(node);
        if (refusal != NO_REFUSAL) {
            return refusal;
        }
        if (!isColumn(node, first) || !isColumnOrNone(node, second) || !isColumnOrNone(node, third)) {
            return BAD_COLUMN;
        }
        int picked = 1;
        if (second != NONE) {
            picked++;
        }
        if (third != NONE) {
            picked++;
        }
        return addNode(PICK, picked, node, NONE, first, second, third);
    }

    public int join(int left, int right, int lc, int rc) {
        int refusal = matchRefusal(left, right, lc, rc);
        if (refusal != NO_REFUSAL) {
            return refusal;
        }
        int sum = nodeWidth[left] + nodeWidth[right];
        if (sum > MAX_WIDTH) {
            return BAD_WIDTH;
        }
        return addNode(JOIN, sum, left, right, lc, rc, 0);
    }

    public int semi(int left, int right, int lc, int rc) {
        return addLeftRowsNode(SEMI, left, right, lc, rc);
    }

    public int anti(int left, int right, int lc, int rc) {
        return addLeftRowsNode(ANTI, left, right, lc, rc);
    }

    public int group(int node, int key, int function, int value) {
        int refusal = inputRefusal(node);
        if (refusal != NO_REFUSAL) {
            return refusal;
        }
        if (!isColumn(node, key) || !isColumn(node, value)) {
            return BAD_COLUMN;
        }
        if (function < SUM || function > GREATEST) {
            return BAD_KIND;
        }
        return addNode(GROUP, GROUP_WIDTH, node, NONE, key, function, value);
    }

    public int distinct(int node) {
        int refusal = inputRefusal(node);
        if (refusal != NO_REFUSAL) {
            return refusal;
        }
        return addNode(DISTINCT, nodeWidth[node], node, NONE, 0, 0, 0);
    }

    public int union(int left, int right) {
        int refusal = inputsRefusal(left, right);
        if (refusal != NO_REFUSAL) {
            return refusal;
        }
        if (nodeWidth[left] != nodeWidth[right]) {
            return BAD_WIDTH;
        }
        return addNode(UNION, nodeWidth[left], left, right, 0, 0, 0);
    }

    public void clearPlan() {
        nodeCount = 0;
    }

    public int run(int root) {
        if (!isNode(root)) {
            return BAD_NODE;
        }
        markPlan(root);
        // A node's inputs have lower numbers than the node, so they are always run before it.
        for (int node = 0; node <= root; node++) {
            if (inPlan[node]) {
                runNode(node);
                if (bagRows[node] > MAX_ROWS) {
                    return OVERFLOW;
                }
            }
        }
        sortBag(root);
        keepResult(root);
        return resultRows;
    }

    public int width() {
        return resultWidth;
    }

    public int cell(int row, int column) {
        if (row < 0 || row >= resultRows || column < 0 || column >= resultWidth) {
            return 0;
        }
        return resultCells[row * MAX_WIDTH + column];
    }

    private boolean isTable(int table) {
        return table >= 0 && table < TABLES;
    }

    private boolean isNode(int node) {
        return node >= 0 && node < nodeCount;
    }

    private boolean isColumn(int node, int column) {
        return column >= 0 && column < nodeWidth[node];
    }

    private boolean isColumnOrNone(int node, int column) {
        return column == NONE || isColumn(node, column);
    }

    private int inputRefusal(int node) {
        if (!isNode(node)) {
            return BAD_NODE;
        }
        return nodeUsed[node] ? USED : NO_REFUSAL;
    }

    private int inputsRefusal(int left, int right) {
        if (!isNode(left) || !isNode(right)) {
            return BAD_NODE;
        }
        if (nodeUsed[left] || nodeUsed[right] || left == right) {
            return USED;
        }
        return NO_REFUSAL;
    }

    private int matchRefusal(int left, int right, int lc, int rc) {
        int refusal = inputsRefusal(left, right);
        if (refusal != NO_REFUSAL) {
            return refusal;
        }
        if (!isColumn(left, lc) || !isColumn(right, rc)) {
            return BAD_COLUMN;
        }
        return NO_REFUSAL;
    }

    private int addLeftRowsNode(int kind, int left, int right, int lc, int rc) {
        int refusal = matchRefusal(left, right, lc, rc);
        if (refusal != NO_REFUSAL) {
            return refusal;
        }
        return addNode(kind, nodeWidth[left], left, right, lc, rc, 0);
    }

    // NO_ROOM is the last refusal of every call that makes a node, so it is tested here for all of them.
    private int addNode(int kind, int columns, int left, int right, int first, int second, int third) {
        if (nodeCount >= MAX_NODES) {
            return NO_ROOM;
        }
        int node = nodeCount;
        nodeKind[node] = kind;
        nodeWidth[node] = columns;
        nodeLeft[node] = left;
        nodeRight[node] = right;
        nodeFirst[node] = first;
        nodeSecond[node] = second;
        nodeThird[node] = third;
        nodeUsed[node] = false;
        if (left != NONE) {
            nodeUsed[left] = true;
        }
        if (right != NONE) {
            nodeUsed[right] = true;
        }
        nodeCount = node + 1;
        return node;
    }

    // Nodes outside the plan are left unmarked: an overflow of theirs must not refuse the run.
    private void markPlan(int root) {
        for (int node = 0; node < root; node++) {
            inPlan[node] = false;
        }
        inPlan[root] = true;
        for (int node = root; node >= 0; node--) {
            if (inPlan[node]) {
                if (nodeLeft[node] != NONE) {
                    inPlan[nodeLeft[node]] = true;
                }
                if (nodeRight[node] != NONE) {
                    inPlan[nodeRight[node]] = true;
                }
            }
        }
    }

    private void runNode(int node) {
        bagRows[node] = 0;
        switch (nodeKind[node]) {
            case SCAN:
                runScan(node);
                break;
            case FILTER:
                runFilter(node);
                break;
            case EXTEND:
                runExtend(node);
                break;
            case PICK:
                runPick(node);
                break;
            case JOIN:
                runJoin(node);
                break;
            case SEMI:
                runLeftRows(node, true);
                break;
            case ANTI:
                runLeftRows(node, false);
                break;
            case GROUP:
                runGroup(node);
                break;
            case DISTINCT:
                runDistinct(node);
                break;
            default:
                addAllRows(node, nodeLeft[node]);
                addAllRows(node, nodeRight[node]);
                break;
        }
    }

    private void runScan(int node) {
        int table = nodeFirst[node];
        int rows = tableRows[table];
        for (int row = 0; row < rows; row++) {
            int from = (table * TABLE_ROWS + row) * TABLE_WIDTH;
            int to = addRow(node);
            for (int column = 0; column < TABLE_WIDTH; column++) {
                bagCells[to + column] = tableCells[from + column];
            }
        }
    }

    private void runFilter(int node) {
        int input = nodeLeft[node];
        int rows = bagRows[input];
        for (int row = 0; row < rows; row++) {
            int from = rowStart(input, row);
            int tested = bagCells[from + nodeFirst[node]];
            if (holds(tested, nodeSecond[node], nodeThird[node])) {
                addCopy(node, from);
            }
        }
    }

    private boolean holds(int tested, int comparison, int constant) {
        switch (comparison) {
            case EQUAL:
                return tested == constant;
            case NOT_EQUAL:
                return tested != constant;
            case LESS:
                return tested < constant;
            case LESS_OR_EQUAL:
                return tested <= constant;
            case GREATER:
                return tested > constant;
            default:
                return tested >= constant;
        }
    }

    private void runExtend(int node) {
        int input = nodeLeft[node];
        int rows = bagRows[input];
        for (int row = 0; row < rows; row++) {
            int from = rowStart(input, row);
            int to = addRow(node);
            copyCells(from, to, nodeWidth[input]);
            int x = bagCells[from + nodeSecond[node]];
            int y = bagCells[from + nodeThird[node]];
            bagCells[to + nodeWidth[input]] = compute(nodeFirst[node], x, y);
        }
    }

    private int compute(int op, int x, int y) {
        switch (op) {
            case PLUS:
                return x + y;
            case MINUS:
                return x - y;
            case TIMES:
                return x * y;
            case LESSER_OF:
                return lesser(x, y);
            default:
                return greater(x, y);
        }
    }

    private int lesser(int x, int y) {
        return x < y ? x : y;
    }

    private int greater(int x, int y) {
        return x > y ? x : y;
    }

    private void runPick(int node) {
        int input = nodeLeft[node];
        int rows = bagRows[input];
        for (int row = 0; row < rows; row++) {
            int from = rowStart(input, row);
            int to = addRow(node);
            bagCells[to] = bagCells[from + nodeFirst[node]];
            int filled = 1;
            if (nodeSecond[node] != NONE) {
                bagCells[to + filled] = bagCells[from + nodeSecond[node]];
                filled++;
            }
            if (nodeThird[node] != NONE) {
                bagCells[to + filled] = bagCells[from + nodeThird[node]];
            }
        }
    }

    private void runJoin(int node) {
        int left = nodeLeft[node];
        int right = nodeRight[node];
        int leftRows = bagRows[left];
        int rightRows = bagRows[right];
        for (int leftRow = 0; leftRow < leftRows; leftRow++) {
            int x = rowStart(left, leftRow);
            for (int rightRow = 0; rightRow < rightRows; rightRow++) {
                int y = rowStart(right, rightRow);
                if (bagCells[x + nodeFirst[node]] == bagCells[y + nodeSecond[node]]) {
                    int to = addRow(node);
                    copyCells(x, to, nodeWidth[left]);
                    copyCells(y, to + nodeWidth[left], nodeWidth[right]);
                }
            }
        }
    }

    private void runLeftRows(int node, boolean partnerWanted) {
        int left = nodeLeft[node];
        int rows = bagRows[left];
        for (int row = 0; row < rows; row++) {
            int from = rowStart(left, row);
            int sought = bagCells[from + nodeFirst[node]];
            int partner = findValue(nodeRight[node], nodeSecond[node], sought);
            if ((partner != NONE) == partnerWanted) {
                addCopy(node, from);
            }
        }
    }

    private void runGroup(int node) {
        int input = nodeLeft[node];
        int rows = bagRows[input];
        for (int row = 0; row < rows; row++) {
            int from = rowStart(input, row);
            int key = bagCells[from + nodeFirst[node]];
            int value = bagCells[from + nodeThird[node]];
            int group = findValue(node, 0, key);
            if (group == NONE) {
                int to = addRow(node);
                bagCells[to] = key;
                bagCells[to + 1] = nodeSecond[node] == COUNT ? 1 : value;
            } else {
                bagCells[group + 1] = fold(nodeSecond[node], bagCells[group + 1], value);
            }
        }
    }

    private int fold(int function, int soFar, int value) {
        switch (function) {
            case SUM:
                return soFar + value;
            case COUNT:
                return soFar + 1;
            case LEAST:
                return lesser(soFar, value);
            default:
                return greater(soFar, value);
        }
    }

    private void runDistinct(int node) {
        int input = nodeLeft[node];
        int rows = bagRows[input];
        for (int row = 0; row < rows; row++) {
            int from = rowStart(input, row);
            if (!hasRow(node, from)) {
                addCopy(node, from);
            }
        }
    }

    private void addAllRows(int node, int input) {
        int rows = bagRows[input];
        for (int row = 0; row < rows; row++) {
            int from = rowStart(input, row);
            addCopy(node, from);
        }
    }

    private int rowStart(int node, int row) {
        return (node * BAG_SLOTS + row) * MAX_WIDTH;
    }

    // Answers where the new row starts. A row too many is counted, so that run sees the overflow.
    private int addRow(int node) {
        int row = bagRows[node];
        bagRows[node] = row + 1;
        return rowStart(node, row < MAX_ROWS ? row : MAX_ROWS);
    }

    private void addCopy(int node, int from) {
        int to = addRow(node);
        copyCells(from, to, nodeWidth[node]);
    }

    private void copyCells(int from, int to, int count) {
        for (int i = 0; i < count; i++) {
            bagCells[to + i] = bagCells[from + i];
        }
    }

    // Answers where the first row of the node with this value in the column starts, or NONE.
    private int findValue(int node, int column, int sought) {
        for (int row = 0; row < bagRows[node]; row++) {
            int start = rowStart(node, row);
            if (bagCells[start + column] == sought) {
                return start;
            }
        }
        return NONE;
    }

    private boolean hasRow(int node, int sought) {
        for (int row = 0; row < bagRows[node]; row++) {
            int start = rowStart(node, row);
            if (firstDifference(start, sought, nodeWidth[node]) == nodeWidth[node]) {
                return true;
            }
        }
        return false;
    }

    // Answers the first column in which the two rows differ, or columns if they are equal.
    private int firstDifference(int one, int other, int columns) {
        for (int column = 0; column < columns; column++) {
            if (bagCells[one + column] != bagCells[other + column]) {
                return column;
            }
        }
        return columns;
    }

    private boolean comesBefore(int one, int other, int columns) {
        int column = firstDifference(one, other, columns);
        return column < columns && bagCells[one + column] < bagCells[other + column];
    }

    // A bag has no order of its own, so it may be sorted where it stands.
    private void sortBag(int node) {
        for (int place = 0; place < bagRows[node]; place++) {
            int first = rowStart(node, place);
            for (int row = place + 1; row < bagRows[node]; row++) {
                int start = rowStart(node, row);
                if (comesBefore(start, first, nodeWidth[node])) {
                    swapRows(start, first, nodeWidth[node]);
                }
            }
        }
    }

    private void swapRows(int one, int other, int columns) {
        for (int column = 0; column < columns; column++) {
            int kept = bagCells[one + column];
            bagCells[one + column] = bagCells[other + column];
            bagCells[other + column] = kept;
        }
    }

    private void keepResult(int root) {
        resultRows = bagRows[root];
        resultWidth = nodeWidth[root];
        for (int row = 0; row < resultRows; row++) {
            int from = rowStart(root, row);
            for (int column = 0; column < resultWidth; column++) {
                resultCells[row * MAX_WIDTH + column] = bagCells[from + column];
            }
        }
    }
}
