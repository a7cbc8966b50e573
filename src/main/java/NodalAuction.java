/**
 * Clears a market for power on a grid of four nodes, exactly, and says whether given prices of
 * the nodes support what was cleared.
 *
 * All rows are made in the constructor and used again: no call makes an object.
 */
public final class NodalAuction {
    public static final int NONE = -2147483648;

    private static final int NODES = 4;
    private static final int MAX_LINES = 6;
    private static final int MAX_STEPS = 8;
    private static final int MAX_STRENGTH = 5;
    private static final int MAX_LIMIT = 1000;
    private static final int MAX_PRICE = 1000;
    private static final int MAX_QUANTITY = 1000;
    private static final int MAX_ASKED = 2000;
    private static final int BID = 1;
    private static final int OFFER = -1;

    /** Three lines at most end at a node, so no intake that the grid carries is beyond this. */
    private static final int MAX_INTAKE = (NODES - 1) * MAX_LIMIT;

    // The variables of a program: the steps 0 .. 7, then these.
    private static final int ADDED = MAX_STEPS;
    private static final int FLOW = ADDED + 1;
    private static final int WORTH = FLOW + MAX_LINES;
    private static final int VARIABLES = WORTH + 1;
    private static final int MAX_ROWS = MAX_LINES + 2;

    /** Far above the moves that any program of this size needs. */
    private static final int MAX_MOVES = 1000000;
    /** Far above the divisions that Euclid's way needs for two longs. */
    private static final int MAX_DIVISIONS = 1000;

    private final Grid grid;
    private final Book book;
    private final Book probe;
    private final Program program;
    private final Outcome outcome;
    private final int[] asked;

    public NodalAuction() {
        grid = new Grid();
        book = new Book();
        probe = new Book();
        program = new Program();
        outcome = new Outcome();
        asked = new int[NODES];
    }

    public int line(int a, int b, int strength, int limit) {
        if (!isNode(a) || !isNode(b) || a == b || grid.joins(a, b)) {
            return NONE;
        }
        if (!within(strength, 1, MAX_STRENGTH) || !within(limit, 0, MAX_LIMIT)) {
            return NONE;
        }
        if (grid.count >= MAX_LINES) {
            return NONE;
        }
        outcome.present = false;
        return grid.add(a, b, strength, limit);
    }

    public boolean limit(int k, int limit) {
        if (!grid.has(k) || !within(limit, 0, MAX_LIMIT)) {
            return false;
        }
        outcome.present = false;
        grid.most[k] = limit;
        return true;
    }

    public boolean cut(int k) {
        if (!grid.has(k)) {
            return false;
        }
        outcome.present = false;
        grid.remove(k);
        return true;
    }

    public int bid(int node, int price, int quantity) {
        return addStep(BID, node, price, quantity);
    }

    public int offer(int node, int price, int quantity) {
        return addStep(OFFER, node, price, quantity);
    }

    public boolean cancel(int k) {
        if (!book.has(k)) {
            return false;
        }
        outcome.present = false;
        book.remove(k);
        return true;
    }

    public int clear() {
        outcome.present = false;
        if (!program.load(grid, book, 0, 0)) {
            return NONE;
        }
        program.maximise(WORTH);
        for (int i = 0; i < book.count; i++) {
            program.maximise(i);
        }
        outcome.take(program, grid, book);
        return outcome.taken(book.count);
    }

    public int steps() {
        return book.count;
    }

    public int lines() {
        return grid.count;
    }

    public int scale() {
        return outcome.present ? outcome.unit : 0;
    }

    public int accepted(int k) {
        return outcome.present && book.has(k) ? outcome.amounts[k] : NONE;
    }

    public int flow(int k) {
        return outcome.present && grid.has(k) ? outcome.flows[k] : NONE;
    }

    public int tight() {
        if (!outcome.present) {
            return NONE;
        }
        int sum = 0;
        for (int k = 0; k < grid.count; k++) {
            if (Math.abs(outcome.flows[k]) == grid.most[k] * outcome.unit) {
                sum += 1 << k;
            }
        }
        return sum;
    }

    public long welfare() {
        return outcome.present ? outcome.worth : -1;
    }

    public long extraTop(int node) {
        if (!addOneAt(node)) {
            return 0;
        }
        long common = commonDivisor(costTop(), costBottom());
        return common == 0 ? 0 : costTop() / common;
    }

    public int extraBottom(int node) {
        if (!addOneAt(node)) {
            return 0;
        }
        long common = commonDivisor(costTop(), costBottom());
        return common == 0 ? 0 : (int) (costBottom() / common);
    }

    public int check(int p0, int p1, int p2, int p3) {
        if (!outcome.present || !takePrices(p0, p1, p2, p3)) {
            return -1;
        }
        int sum = someStepLoses() ? 1 : 0;
        sum += someStepWouldGain() ? 2 : 0;
        sum += gridCarriesMore() ? 4 : 0;
        return sum;
    }

    public long rent(int p0, int p1, int p2, int p3) {
        if (!outcome.present || !takePrices(p0, p1, p2, p3)) {
            return 0;
        }
        return intakeWorth();
    }

    private static boolean within(int x, int least, int greatest) {
        return x >= least && x <= greatest;
    }

    private static boolean isNode(int n) {
        return within(n, 0, NODES - 1);
    }

    /** Never below 0; 0 only when both are 0. */
    private static long commonDivisor(long a, long b) {
        long x = Math.abs(a);
        long y = Math.abs(b);
        for (int i = 0; i < MAX_DIVISIONS && y != 0; i++) {
            long rest = x % y;
            x = y;
            y = rest;
        }
        return x;
    }

    private int addStep(int side, int node, int price, int quantity) {
        if (!isNode(node) || !within(price, 0, MAX_PRICE) || !within(quantity, 1, MAX_QUANTITY)) {
            return NONE;
        }
        if (book.count >= MAX_STEPS) {
            return NONE;
        }
        outcome.present = false;
        return book.add(side, node, price, quantity);
    }

    /**
     * Leaves the best dispatch with one unit added at the node in the program. False when there
     * is none.
     */
    private boolean addOneAt(int node) {
        if (!outcome.present || !isNode(node) || !program.load(grid, book, node, 1)) {
            return false;
        }
        program.maximise(ADDED);
        if (program.top(ADDED) != program.bottom) {
            return false;
        }
        program.maximise(WORTH);
        return true;
    }

    /** What the unit that was added costs, not in lowest terms. */
    private long costTop() {
        return outcome.worth * program.bottom - program.top(WORTH) * outcome.unit;
    }

    private long costBottom() {
        return program.bottom * outcome.unit;
    }

    private boolean takePrices(int p0, int p1, int p2, int p3) {
        asked[0] = p0;
        asked[1] = p1;
        asked[2] = p2;
        asked[3] = p3;
        for (int n = 0; n < NODES; n++) {
            if (!within(asked[n], -MAX_ASKED, MAX_ASKED)) {
                return false;
            }
        }
        return true;
    }

    /** What a unit of step i earns at the asked prices: a bid pays them, an offer gets them. */
    private int margin(int i) {
        return book.side[i] * (book.price[i] - asked[book.node[i]]);
    }

    private boolean someStepLoses() {
        for (int i = 0; i < book.count; i++) {
            if (outcome.amounts[i] > 0 && margin(i) < 0) {
                return true;
            }
        }
        return false;
    }

    private boolean someStepWouldGain() {
        for (int i = 0; i < book.count; i++) {
            if (outcome.amounts[i] < book.quantity[i] * outcome.unit && margin(i) > 0) {
                return true;
            }
        }
        return false;
    }

    /** A bid and an offer at each node, wide enough for all that the grid carries, stand for w0 .. w3. */
    private boolean gridCarriesMore() {
        probe.count = 0;
        for (int n = 0; n < NODES; n++) {
            probe.add(BID, n, asked[n], MAX_INTAKE);
            probe.add(OFFER, n, asked[n], MAX_INTAKE);
        }
        if (!program.load(grid, probe, 0, 0)) {
            return false;
        }
        program.maximise(WORTH);
        return program.top(WORTH) * outcome.unit > intakeWorth() * program.bottom;
    }

    /** The sum of asked price * intake over the nodes, times the scale. */
    private long intakeWorth() {
        long sum = 0;
        for (int i = 0; i < book.count; i++) {
            sum += (long) book.side[i] * outcome.amounts[i] * asked[book.node[i]];
        }
        return sum;
    }

    /** The bids and offers. */
    private static final class Book {
        private final int[] side = new int[MAX_STEPS];
        private final int[] node = new int[MAX_STEPS];
        private final int[] price = new int[MAX_STEPS];
        private final int[] quantity = new int[MAX_STEPS];
        private int count = 0;

        private boolean has(int k) {
            return k >= 0 && k < count;
        }

        private int add(int itsSide, int itsNode, int itsPrice, int itsQuantity) {
            if (count >= MAX_STEPS) {
                return NONE;
            }
            side[count] = itsSide;
            node[count] = itsNode;
            price[count] = itsPrice;
            quantity[count] = itsQuantity;
            count++;
            return count - 1;
        }

        private void remove(int k) {
            for (int i = k; i + 1 < count; i++) {
                side[i] = side[i + 1];
                node[i] = node[i + 1];
                price[i] = price[i + 1];
                quantity[i] = quantity[i + 1];
            }
            count--;
        }
    }

    /** The lines, and the flows that an intake brings about. */
    private static final class Grid {
        private final int[] first = new int[MAX_LINES];
        private final int[] second = new int[MAX_LINES];
        private final int[] force = new int[MAX_LINES];
        private final int[] most = new int[MAX_LINES];
        private int count = 0;

        private final long[][] laplacian = new long[NODES][NODES];
        private final long[][] adjugate = new long[NODES][NODES];
        /** The weight of all spanning trees: above 0 just when the grid is connected. */
        private long trees = 0;

        private boolean has(int k) {
            return k >= 0 && k < count;
        }

        private boolean joins(int a, int b) {
            for (int k = 0; k < count; k++) {
                if ((first[k] == a && second[k] == b) || (first[k] == b && second[k] == a)) {
                    return true;
                }
            }
            return false;
        }

        private int add(int a, int b, int strength, int itsMost) {
            if (count >= MAX_LINES) {
                return NONE;
            }
            first[count] = a;
            second[count] = b;
            force[count] = strength;
            most[count] = itsMost;
            count++;
            return count - 1;
        }

        private void remove(int k) {
            for (int i = k; i + 1 < count; i++) {
                first[i] = first[i + 1];
                second[i] = second[i + 1];
                force[i] = force[i + 1];
                most[i] = most[i + 1];
            }
            count--;
        }

        /** Sets h of the root to 0, so that the intakes of the other three nodes settle every h. */
        private void ground(int root) {
            weighNodes();
            trees = 0;
            for (int n = 0; n < NODES; n++) {
                adjugate[root][n] = 0;
                adjugate[n][root] = 0;
            }
            for (int i = 0; i < NODES - 1; i++) {
                for (int j = 0; j < NODES - 1; j++) {
                    adjugate[beside(root, i)][beside(root, j)] = cofactor(root, i, j);
                }
            }
            int top = beside(root, 0);
            for (int n = 0; n < NODES; n++) {
                trees += laplacian[top][n] * adjugate[top][n];
            }
        }

        private void weighNodes() {
            for (int a = 0; a < NODES; a++) {
                for (int b = 0; b < NODES; b++) {
                    laplacian[a][b] = 0;
                }
            }
            for (int k = 0; k < count; k++) {
                int a = first[k];
                int b = second[k];
                laplacian[a][a] += force[k];
                laplacian[b][b] += force[k];
                laplacian[a][b] -= force[k];
                laplacian[b][a] -= force[k];
            }
        }

        /** The three nodes that are not the root, told round and round. */
        private static int beside(int root, int i) {
            return (root + 1 + i % (NODES - 1)) % NODES;
        }

        /** Going round in the order of rows and columns gives a 3 x 3 cofactor its sign. */
        private long cofactor(int root, int i, int j) {
            int a = beside(root, i + 1);
            int b = beside(root, i + 2);
            int c = beside(root, j + 1);
            int d = beside(root, j + 2);
            return laplacian[a][c] * laplacian[b][d] - laplacian[a][d] * laplacian[b][c];
        }

        /** The flow of line k for an intake of 1 at the node, put in at the root, times trees. */
        private long share(int k, int node) {
            return force[k] * (adjugate[second[k]][node] - adjugate[first[k]][node]);
        }
    }

    /**
     * A linear program over the amounts of the steps, an amount added at the root, the flows and
     * the worth, solved by the simplex method for variables between two bounds.
     *
     * Each variable of a row is the sum of cell * variable of the column, divided by bottom. A
     * variable of a column stands at one of its bounds. All cells and bottom are minors of one
     * matrix of whole numbers, so that a division in pivot leaves no rest.
     *
     * Why no number comes near the end of a long: at first each cell of a flow and of the amount
     * added is at most bottom, which is trees, at most 2000. Those rows have rank 4, so that
     * later such a cell and bottom are at most trees times a minor of 4 rows of such shares, at
     * most 16: 32,000. A cell of the worth, with prices up to 2000, is then at most 5 * 2000 *
     * 32,000, its sum over 8 columns at most 3000 wide below 10^13, and that times the scale or
     * another bottom below 10^18.
     */
    private static final class Program {
        private final long[][] cell = new long[MAX_ROWS][MAX_STEPS];
        private final int[] rowVariable = new int[MAX_ROWS];
        private final int[] columnVariable = new int[MAX_STEPS];
        private final int[] least = new int[VARIABLES];
        private final int[] greatest = new int[VARIABLES];
        private final int[] place = new int[VARIABLES];
        private final boolean[] frozen = new boolean[MAX_STEPS];
        private int rows = 0;
        private int columns = 0;
        private long bottom = 1;

        /**
         * Starts with every amount at 0. The amount added at the root is whatever makes the
         * intakes sum to 0, at most mostAdded. False when the grid is not connected.
         */
        private boolean load(Grid grid, Book book, int root, int mostAdded) {
            grid.ground(root);
            if (grid.trees <= 0) {
                return false;
            }
            bottom = grid.trees;
            columns = book.count;
            rows = grid.count + 2;
            for (int k = 0; k < grid.count; k++) {
                placeRow(k, FLOW + k, -grid.most[k], grid.most[k]);
            }
            placeRow(grid.count, ADDED, 0, mostAdded);
            placeRow(grid.count + 1, WORTH, 0, 0);
            for (int j = 0; j < columns; j++) {
                placeColumn(j, book.quantity[j]);
                for (int k = 0; k < grid.count; k++) {
                    cell[k][j] = book.side[j] * grid.share(k, book.node[j]);
                }
                cell[grid.count][j] = -book.side[j] * bottom;
                cell[grid.count + 1][j] = book.side[j] * book.price[j] * bottom;
            }
            return true;
        }

        private void placeRow(int i, int variable, int itsLeast, int itsGreatest) {
            rowVariable[i] = variable;
            least[variable] = itsLeast;
            greatest[variable] = itsGreatest;
        }

        private void placeColumn(int j, int quantity) {
            columnVariable[j] = j;
            least[j] = 0;
            greatest[j] = quantity;
            place[j] = 0;
            frozen[j] = false;
        }

        /**
         * Makes a variable as great as it can be, and keeps it so: what is made great later is
         * made so among the dispatches that are best until here.
         */
        private void maximise(int aim) {
            for (int move = 0; move < MAX_MOVES; move++) {
                int row = rowOf(aim);
                int j = firstGain(aim, row);
                if (j < 0) {
                    break;
                }
                advance(j, gain(aim, row, j) > 0);
            }
            int row = rowOf(aim);
            for (int j = 0; j < columns; j++) {
                if (gain(aim, row, j) != 0) {
                    frozen[j] = true;
                }
            }
        }

        /** The value of a variable, times bottom. */
        private long top(int variable) {
            int i = rowOf(variable);
            return i < 0 ? place[variable] * bottom : rowTop(i);
        }

        private long rowTop(int i) {
            long sum = 0;
            for (int j = 0; j < columns; j++) {
                sum += cell[i][j] * place[columnVariable[j]];
            }
            return sum;
        }

        private int rowOf(int variable) {
            for (int i = 0; i < rows; i++) {
                if (rowVariable[i] == variable) {
                    return i;
                }
            }
            return -1;
        }

        /** What the aim, in that row or in none, gains when column j grows by 1, times bottom. */
        private long gain(int aim, int row, int j) {
            if (row >= 0) {
                return cell[row][j];
            }
            return columnVariable[j] == aim ? bottom : 0;
        }

        /** Bland's rule: always the least variable, here and in advance, so that no basis returns. */
        private int firstGain(int aim, int row) {
            int found = -1;
            for (int j = 0; j < columns; j++) {
                boolean isLess = found < 0 || columnVariable[j] < columnVariable[found];
                if (isLess && !frozen[j] && canMove(columnVariable[j], gain(aim, row, j))) {
                    found = j;
                }
            }
            return found;
        }

        private boolean canMove(int variable, long direction) {
            if (direction > 0) {
                return place[variable] < greatest[variable];
            }
            return direction < 0 && place[variable] > least[variable];
        }

        /** Moves the variable of column j as far as its own bounds and those of the rows let it. */
        private void advance(int j, boolean up) {
            int variable = columnVariable[j];
            int stop = -1;
            long room = greatest[variable] - least[variable];
            long speed = 1;
            for (int i = 0; i < rows; i++) {
                long rise = up ? cell[i][j] : -cell[i][j];
                if (rise == 0 || rowVariable[i] == WORTH) {
                    continue;
                }
                long itsRoom = roomOf(i, rise > 0);
                long itsSpeed = Math.abs(rise);
                long order = itsRoom * speed - room * itsSpeed;
                boolean isLess = stop >= 0 && rowVariable[i] < rowVariable[stop];
                if (order < 0 || (order == 0 && isLess)) {
                    stop = i;
                    room = itsRoom;
                    speed = itsSpeed;
                }
            }
            if (stop < 0) {
                place[variable] = up ? greatest[variable] : least[variable];
                return;
            }
            int leaving = rowVariable[stop];
            boolean rises = up == (cell[stop][j] > 0);
            place[leaving] = rises ? greatest[leaving] : least[leaving];
            pivot(stop, j);
        }

        /** How far the variable of row i is from the bound that it goes to, times bottom. */
        private long roomOf(int i, boolean rises) {
            int variable = rowVariable[i];
            long top = rowTop(i);
            return rises ? greatest[variable] * bottom - top : top - least[variable] * bottom;
        }

        /** The variables of row r and column c change their parts. */
        private void pivot(int r, int c) {
            long middle = cell[r][c];
            if (middle == 0 || bottom == 0) {
                return;
            }
            long sign = middle > 0 ? 1 : -1;
            for (int i = 0; i < rows; i++) {
                if (i != r) {
                    replaceRow(i, r, c);
                }
            }
            for (int j = 0; j < columns; j++) {
                cell[r][j] = j == c ? sign * bottom : -sign * cell[r][j];
            }
            bottom = sign * middle;
            int variable = rowVariable[r];
            rowVariable[r] = columnVariable[c];
            columnVariable[c] = variable;
        }

        private void replaceRow(int i, int r, int c) {
            long middle = cell[r][c];
            long sign = middle > 0 ? 1 : -1;
            long factor = cell[i][c];
            for (int j = 0; j < columns; j++) {
                if (j == c) {
                    cell[i][j] = sign * factor;
                } else if (bottom != 0) {
                    cell[i][j] = sign * (cell[i][j] * middle - factor * cell[r][j]) / bottom;
                }
            }
        }
    }

    /** The results: the cleared dispatch in whole numbers, each times unit, which is the scale. */
    private static final class Outcome {
        private final int[] amounts = new int[MAX_STEPS];
        private final int[] flows = new int[MAX_LINES];
        private boolean present = false;
        private int unit = 1;
        private long worth = 0;

        private void take(Program program, Grid grid, Book book) {
            long common = program.bottom;
            for (int i = 0; i < book.count; i++) {
                common = commonDivisor(common, program.top(i));
            }
            for (int k = 0; k < grid.count; k++) {
                common = commonDivisor(common, program.top(FLOW + k));
            }
            if (common == 0) {
                return;
            }
            unit = (int) (program.bottom / common);
            worth = program.top(WORTH) / common;
            for (int i = 0; i < book.count; i++) {
                amounts[i] = (int) (program.top(i) / common);
            }
            for (int k = 0; k < grid.count; k++) {
                flows[k] = (int) (program.top(FLOW + k) / common);
            }
            present = true;
        }

        private int taken(int count) {
            int sum = 0;
            for (int i = 0; i < count; i++) {
                if (amounts[i] > 0) {
                    sum++;
                }
            }
            return sum;
        }
    }
}
