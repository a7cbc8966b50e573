/** Each promise of the document by its number: ordinary inputs, edges and wrong inputs. */
public final class PromisesTest {
    private static final long NONE = -2147483648L;
    private static final int[] FAR = {-1, Integer.MIN_VALUE, Integer.MAX_VALUE};
    private static int wrong = 0;

    private static void due(int promise, String call, long got, long want) {
        if (got != want) {
            wrong++;
            System.out.println("promise " + promise + ": " + call + " answered " + got + ", due is " + want);
        }
    }

    private static void due(int promise, String call, boolean got, boolean want) {
        due(promise, call, got ? 1L : 0L, want ? 1L : 0L);
    }

    /** 0 - 1 - 2 - 3, each line with strength 1 and the limit. */
    private static NodalAuction chain(int limit) {
        NodalAuction x = new NodalAuction();
        x.line(0, 1, 1, limit);
        x.line(1, 2, 1, limit);
        x.line(2, 3, 1, limit);
        return x;
    }

    /** A chain with an offer at node 0 and a bid at node 3, cleared: 5 units go all the way. */
    private static NodalAuction cleared() {
        NodalAuction x = chain(10);
        x.offer(0, 2, 9);
        x.bid(3, 6, 5);
        x.clear();
        return x;
    }

    private static void dueResults(int promise, String after, NodalAuction x, boolean there) {
        due(promise, "scale() after " + after, x.scale(), there ? 1 : 0);
        due(promise, "welfare() after " + after, x.welfare(), there ? 20 : -1);
    }

    private static void newObject() {
        NodalAuction x = new NodalAuction();
        due(1, "steps()", x.steps(), 0);
        due(1, "lines()", x.lines(), 0);
        dueNoResults(1, x);
        due(1, "cut(0)", x.cut(0), false);
        due(1, "cancel(0)", x.cancel(0), false);
        due(1, "limit(0, 0)", x.limit(0, 0), false);
        NodalAuction y = chain(3);
        due(1, "lines() of another", new NodalAuction().lines() + y.lines(), 3);
    }

    private static void dueNoResults(int promise, NodalAuction x) {
        due(promise, "scale()", x.scale(), 0);
        due(promise, "accepted(0)", x.accepted(0), NONE);
        due(promise, "flow(0)", x.flow(0), NONE);
        due(promise, "tight()", x.tight(), NONE);
        due(promise, "welfare()", x.welfare(), -1);
        for (int n = 0; n < 4; n++) {
            due(promise, "extraTop(" + n + ")", x.extraTop(n), 0);
            due(promise, "extraBottom(" + n + ")", x.extraBottom(n), 0);
        }
        due(promise, "check(1, 1, 1, 1)", x.check(1, 1, 1, 1), -1);
        due(promise, "rent(1, 2, 3, 4)", x.rent(1, 2, 3, 4), 0);
    }

    private static void line() {
        NodalAuction x = new NodalAuction();
        for (int far : new int[] {-1, 4, Integer.MIN_VALUE, Integer.MAX_VALUE}) {
            due(2, "line(" + far + ", 1, 1, 1)", x.line(far, 1, 1, 1), NONE);
            due(2, "line(1, " + far + ", 1, 1)", x.line(1, far, 1, 1), NONE);
        }
        for (int n = 0; n < 4; n++) {
            due(2, "line(n, n, 1, 1)", x.line(n, n, 1, 1), NONE);
        }
        for (int far : new int[] {0, 6, -1, Integer.MIN_VALUE, Integer.MAX_VALUE}) {
            due(2, "line(0, 1, " + far + ", 1)", x.line(0, 1, far, 1), NONE);
        }
        for (int far : new int[] {1001, -1, Integer.MIN_VALUE, Integer.MAX_VALUE}) {
            due(2, "line(0, 1, 1, " + far + ")", x.line(0, 1, 1, far), NONE);
        }
        due(2, "lines() after refusals", x.lines(), 0);
        due(2, "line(3, 0, 5, 1000)", x.line(3, 0, 5, 1000), 0);
        due(2, "line(0, 3, 1, 1)", x.line(0, 3, 1, 1), NONE);
        due(2, "line(3, 0, 1, 1)", x.line(3, 0, 1, 1), NONE);
        due(2, "line(1, 2, 1, 0)", x.line(1, 2, 1, 0), 1);
        due(2, "line(2, 1, 1, 0)", x.line(2, 1, 1, 0), NONE);
        due(2, "line(0, 1, 1, 1)", x.line(0, 1, 1, 1), 2);
        due(2, "line(0, 2, 1, 1)", x.line(0, 2, 1, 1), 3);
        due(2, "line(1, 3, 1, 1)", x.line(1, 3, 1, 1), 4);
        due(2, "line(2, 3, 1, 1)", x.line(2, 3, 1, 1), 5);
        due(2, "line(3, 2, 1, 1)", x.line(3, 2, 1, 1), NONE);
        x = cleared();
        x.line(0, 1, 1, 1);
        dueResults(2, "a refused line", x, true);
        due(2, "line(0, 3, 1, 0)", x.line(0, 3, 1, 0), 3);
        dueNoResults(2, x);
    }

    private static void limit() {
        NodalAuction x = cleared();
        for (int far : new int[] {3, -1, Integer.MIN_VALUE, Integer.MAX_VALUE}) {
            due(3, "limit(" + far + ", 1)", x.limit(far, 1), false);
        }
        for (int far : new int[] {1001, -1, Integer.MIN_VALUE, Integer.MAX_VALUE}) {
            due(3, "limit(0, " + far + ")", x.limit(0, far), false);
        }
        dueResults(3, "a refused limit", x, true);
        due(3, "limit(1, 10)", x.limit(1, 10), true);
        dueNoResults(3, x);
        due(3, "limit(1, 3)", x.limit(1, 3), true);
        x.clear();
        due(3, "accepted(1)", x.accepted(1), 3);
        due(3, "limit(2, 0)", x.limit(2, 0), true);
        x.clear();
        due(3, "accepted(1)", x.accepted(1), 0);
        due(3, "limit(2, 1000)", x.limit(2, 1000), true);
        x.clear();
        due(3, "accepted(1)", x.accepted(1), 3);
    }

    private static void cut() {
        NodalAuction x = cleared();
        for (int far : new int[] {3, -1, Integer.MIN_VALUE, Integer.MAX_VALUE}) {
            due(4, "cut(" + far + ")", x.cut(far), false);
        }
        dueResults(4, "a refused cut", x, true);
        due(4, "line(3, 0, 2, 2)", x.line(3, 0, 2, 2), 3);
        x.clear();
        due(4, "cut(0)", x.cut(0), true);
        dueNoResults(4, x);
        due(4, "lines()", x.lines(), 3);
        due(4, "clear()", x.clear(), 2);
        due(4, "flow(2), once line 3", x.flow(2), -2);
        due(4, "flow(3)", x.flow(3), NONE);
        due(4, "tight()", x.tight(), 4);
        due(4, "line(1, 0, 1, 1)", x.line(1, 0, 1, 1), 3);
        x.limit(2, 9);
        x.limit(3, 9);
        due(4, "clear() round a ring", x.clear(), 2);
        due(4, "scale() of strengths 1, 1, 2, 1", x.scale(), 7);
        due(4, "flow(2) of strength 2", x.flow(2), -30);
        due(4, "flow(3) of strength 1", x.flow(3), -5);
    }

    private static void step(int promise, boolean isBid) {
        NodalAuction x = new NodalAuction();
        for (int far : FAR) {
            due(promise, "node " + far, add(x, isBid, far, 1, 1), NONE);
            due(promise, "price " + far, add(x, isBid, 0, far, 1), NONE);
            due(promise, "quantity " + far, add(x, isBid, 0, 1, far), NONE);
        }
        due(promise, "node 4", add(x, isBid, 4, 1, 1), NONE);
        due(promise, "price 1001", add(x, isBid, 0, 1001, 1), NONE);
        due(promise, "quantity 0", add(x, isBid, 0, 1, 0), NONE);
        due(promise, "quantity 1001", add(x, isBid, 0, 1, 1001), NONE);
        due(promise, "steps() after refusals", x.steps(), 0);
        due(promise, "least", add(x, isBid, 0, 0, 1), 0);
        due(promise, "greatest", add(x, isBid, 3, 1000, 1000), 1);
        due(promise, "of the other side", add(x, !isBid, 1, 1, 1), 2);
        for (int i = 3; i < 8; i++) {
            due(promise, "step " + i, add(x, isBid, 2, 5, 5), i);
        }
        due(promise, "the ninth", add(x, isBid, 2, 5, 5), NONE);
        due(promise, "steps()", x.steps(), 8);
        x.cancel(3);
        due(promise, "the eighth again", add(x, isBid, 2, 5, 5), 7);
        x = chain(10);
        for (int i = 0; i < 8; i++) {
            x.bid(i % 4, i, 5);
        }
        x.clear();
        due(promise, "the ninth with results", add(x, isBid, 2, 5, 5), NONE);
        due(promise, "scale() after the ninth", x.scale(), 1);
        x = cleared();
        add(x, isBid, 0, 1, 0);
        dueResults(promise, "a refused step", x, true);
        add(x, isBid, 0, 1, 1);
        dueNoResults(promise, x);
    }

    private static int add(NodalAuction x, boolean isBid, int node, int price, int quantity) {
        return isBid ? x.bid(node, price, quantity) : x.offer(node, price, quantity);
    }

    private static void sides() {
        NodalAuction x = chain(10);
        x.bid(0, 5, 4);
        due(5, "clear() of a bid alone", x.clear(), 0);
        x.bid(1, 5, 4);
        due(5, "clear() of two bids", x.clear(), 0);
        x.cancel(1);
        x.offer(1, 5, 3);
        due(6, "clear() of a bid and an offer", x.clear(), 2);
        due(6, "flow(0) from offer to bid", x.flow(0), -3);
        x.cancel(0);
        x.offer(0, 0, 3);
        due(6, "clear() of two offers", x.clear(), 0);
    }

    private static void cancel() {
        NodalAuction x = cleared();
        for (int far : new int[] {2, -1, Integer.MIN_VALUE, Integer.MAX_VALUE}) {
            due(7, "cancel(" + far + ")", x.cancel(far), false);
        }
        dueResults(7, "a refused cancel", x, true);
        x.bid(2, 8, 1);
        x.clear();
        due(7, "cancel(0)", x.cancel(0), true);
        dueNoResults(7, x);
        due(7, "steps()", x.steps(), 2);
        x.offer(3, 7, 9);
        due(7, "clear()", x.clear(), 2);
        due(7, "accepted(0), once step 1", x.accepted(0), 0);
        due(7, "accepted(1), once step 2", x.accepted(1), 1);
        due(7, "accepted(2)", x.accepted(2), 1);
        due(7, "accepted(3)", x.accepted(3), NONE);
        due(7, "flow(2), from node 3 to node 2", x.flow(2), -1);
        due(7, "flow(1)", x.flow(1), 0);
        due(7, "cancel(2)", x.cancel(2), true);
        due(7, "cancel(1)", x.cancel(1), true);
        due(7, "cancel(0)", x.cancel(0), true);
        due(7, "cancel(0)", x.cancel(0), false);
    }

    private static void clear() {
        NodalAuction x = new NodalAuction();
        due(8, "clear() without lines", x.clear(), NONE);
        x.line(0, 1, 1, 5);
        x.line(1, 2, 1, 5);
        x.line(2, 0, 1, 5);
        due(8, "clear() without node 3", x.clear(), NONE);
        x.line(3, 2, 1, 0);
        due(8, "clear() over a line with limit 0", x.clear(), 0);
        due(8, "scale()", x.scale(), 1);
        x.cut(0);
        due(8, "clear() of a tree", x.clear(), 0);
        x.cut(1);
        due(8, "clear() of two parts", x.clear(), NONE);
        dueNoResults(8, x);
        x = new NodalAuction();
        x.line(0, 1, 1, 5);
        x.line(2, 3, 1, 5);
        due(8, "clear() of two pairs", x.clear(), NONE);
        dueTies();
    }

    /** Welfare first, then the amounts in the order of the steps, even where nothing is gained. */
    private static void dueTies() {
        NodalAuction x = chain(100);
        x.offer(0, 5, 4);
        x.offer(1, 5, 4);
        x.bid(2, 5, 3);
        x.bid(3, 5, 3);
        due(8, "clear() of equal prices", x.clear(), 4);
        due(8, "accepted(0)", x.accepted(0), 4);
        due(8, "accepted(1)", x.accepted(1), 2);
        due(8, "accepted(2)", x.accepted(2), 3);
        due(8, "accepted(3)", x.accepted(3), 3);
        x.cancel(3);
        due(8, "clear()", x.clear(), 2);
        due(8, "accepted(0)", x.accepted(0), 3);
        due(8, "accepted(1)", x.accepted(1), 0);
        x.bid(3, 6, 2);
        due(8, "clear() with a better bid behind", x.clear(), 4);
        due(8, "accepted(2)", x.accepted(2), 3);
        due(8, "accepted(3)", x.accepted(3), 2);
        x = chain(100);
        x.bid(0, 0, 7);
        x.offer(0, 0, 9);
        due(8, "clear() at price 0", x.clear(), 2);
        due(8, "accepted(0)", x.accepted(0), 7);
        due(8, "accepted(1)", x.accepted(1), 7);
        due(8, "welfare()", x.welfare(), 0);
        x = chain(2);
        x.bid(3, 9, 5);
        x.bid(0, 3, 5);
        x.offer(0, 1, 4);
        due(8, "clear() with a full line", x.clear(), 3);
        due(8, "accepted(0)", x.accepted(0), 2);
        due(8, "accepted(1)", x.accepted(1), 2);
    }

    private static void counts() {
        NodalAuction x = chain(4);
        due(9, "steps()", x.steps(), 0);
        due(10, "lines()", x.lines(), 3);
        for (int i = 1; i <= 8; i++) {
            x.bid(i % 4, i, i);
            due(9, "steps()", x.steps(), i);
        }
        x.clear();
        due(9, "steps() with results", x.steps(), 8);
        due(10, "lines() with results", x.lines(), 3);
        x.cancel(7);
        x.cut(2);
        due(9, "steps()", x.steps(), 7);
        due(10, "lines()", x.lines(), 2);
        x.line(0, 3, 1, 1);
        x.line(0, 2, 1, 1);
        x.line(1, 3, 1, 1);
        x.line(2, 3, 1, 1);
        due(10, "lines()", x.lines(), 6);
    }

    /** Two ways from node 0 to node 2: flows of thirds although every amount is whole. */
    private static NodalAuction triangle() {
        NodalAuction x = new NodalAuction();
        x.line(0, 1, 1, 100);
        x.line(1, 2, 1, 100);
        x.line(2, 0, 1, 100);
        x.line(3, 0, 4, 100);
        x.offer(0, 10, 50);
        x.bid(2, 30, 1);
        x.clear();
        return x;
    }

    private static void amounts() {
        NodalAuction x = triangle();
        due(11, "scale() by the flows", x.scale(), 3);
        due(12, "accepted(0)", x.accepted(0), 3);
        due(12, "accepted(1)", x.accepted(1), 3);
        due(13, "flow(0)", x.flow(0), 1);
        due(13, "flow(1)", x.flow(1), 1);
        due(13, "flow(2)", x.flow(2), -2);
        due(13, "flow(3)", x.flow(3), 0);
        due(15, "welfare()", x.welfare(), 60);
        for (int far : FAR) {
            due(12, "accepted(" + far + ")", x.accepted(far), NONE);
            due(13, "flow(" + far + ")", x.flow(far), NONE);
        }
        due(12, "accepted(2)", x.accepted(2), NONE);
        due(13, "flow(4)", x.flow(4), NONE);
        x.limit(2, 1);
        x.cancel(1);
        x.bid(2, 30, 40);
        x.clear();
        due(11, "scale() with a full line", x.scale(), 2);
        due(12, "accepted(1)", x.accepted(1), 3);
        due(13, "flow(2)", x.flow(2), -2);
        due(13, "flow(0)", x.flow(0), 1);
        x.cancel(0);
        x.cancel(0);
        due(11, "scale() after a change", x.scale(), 0);
        x.clear();
        due(11, "scale() without steps", x.scale(), 1);
        due(12, "accepted(0) without steps", x.accepted(0), NONE);
        due(13, "flow(2) without steps", x.flow(2), 0);
        dueGreatScale();
    }

    /** All six lines, and prices, quantities and limits at their top. */
    private static void dueGreatScale() {
        NodalAuction x = new NodalAuction();
        x.line(0, 1, 5, 1000);
        x.line(0, 2, 3, 1000);
        x.line(0, 3, 4, 1000);
        x.line(1, 2, 1, 1000);
        x.line(1, 3, 5, 1000);
        x.line(2, 3, 5, 1000);
        x.offer(0, 0, 1000);
        x.bid(3, 1000, 1000);
        x.clear();
        due(11, "scale()", x.scale(), 411);
        due(12, "accepted(1)", x.accepted(1), 411000);
        due(15, "welfare()", x.welfare(), 411000000);
        int[] flows = {125000, 90000, 196000, 5000, 120000, 95000};
        for (int k = 0; k < 6; k++) {
            due(13, "flow(" + k + ")", x.flow(k), flows[k]);
        }
        due(14, "tight()", x.tight(), 0);
        due(19, "rent(-2000, 0, 0, 2000)", x.rent(-2000, 0, 0, 2000), 1644000000);
        due(19, "rent(-2000, 0, 0, -2000)", x.rent(-2000, 0, 0, -2000), 0);
    }

    private static void tight() {
        NodalAuction x = cleared();
        due(14, "tight() of no full line", x.tight(), 0);
        x.limit(0, 5);
        x.clear();
        due(14, "tight() at the limit", x.tight(), 1);
        x.limit(2, 4);
        x.clear();
        due(14, "tight()", x.tight(), 4);
        x.line(0, 3, 5, 0);
        x.clear();
        due(14, "tight() with a limit of 0", x.tight(), 8);
        x = chain(0);
        x.clear();
        due(14, "tight() of limits 0", x.tight(), 7);
        x = chain(10);
        x.offer(3, 1, 30);
        x.bid(1, 9, 30);
        x.clear();
        due(14, "tight() at minus the limit", x.tight(), 6);
        due(13, "flow(1)", x.flow(1), -10);
    }

    private static void welfare() {
        NodalAuction x = chain(10);
        due(15, "welfare() without results", x.welfare(), -1);
        x.clear();
        due(15, "welfare() without steps", x.welfare(), 0);
        x.offer(0, 7, 9);
        x.bid(3, 6, 5);
        x.clear();
        due(15, "welfare() where nothing is taken", x.welfare(), 0);
        x.bid(2, 8, 4);
        x.clear();
        due(15, "welfare()", x.welfare(), 4);
        x.limit(0, 3);
        due(15, "welfare() after a change", x.welfare(), -1);
        x.clear();
        due(15, "welfare()", x.welfare(), 3);
    }

    private static void dueExtra(NodalAuction x, int node, long top, long bottom) {
        due(16, "extraTop(" + node + ")", x.extraTop(node), top);
        due(17, "extraBottom(" + node + ")", x.extraBottom(node), bottom);
    }

    private static void extra() {
        NodalAuction x = cleared();
        for (int n = 0; n < 4; n++) {
            dueExtra(x, n, 2, 1);
        }
        for (int far : FAR) {
            dueExtra(x, far, 0, 0);
        }
        dueExtra(x, 4, 0, 0);
        dueResults(16, "extraTop", x, true);
        x.limit(1, 5);
        x.clear();
        dueExtra(x, 1, 2, 1);
        dueExtra(x, 2, 6, 1);
        dueExtra(x, 3, 6, 1);
        x.limit(1, 0);
        x.clear();
        dueExtra(x, 1, 2, 1);
        dueExtra(x, 2, 0, 0);
        x = triangle();
        x.limit(2, 1);
        x.cancel(1);
        x.bid(2, 31, 40);
        x.clear();
        dueExtra(x, 1, 41, 2);
        dueExtra(x, 3, 10, 1);
        dueExtraEdges();
    }

    private static void dueExtraEdges() {
        NodalAuction x = chain(10);
        x.clear();
        dueExtra(x, 0, 0, 0);
        x.offer(2, 0, 1);
        x.clear();
        dueExtra(x, 0, 0, 1);
        dueExtra(x, 2, 0, 1);
        x.bid(1, 9, 1);
        x.clear();
        dueExtra(x, 3, 9, 1);
        x.limit(1, 0);
        x.clear();
        dueExtra(x, 0, 0, 0);
        dueExtra(x, 3, 0, 1);
        dueExtraBelowZero();
    }

    /** One more unit at node 1 relieves the full line, so that the bid at node 2 can take more. */
    private static void dueExtraBelowZero() {
        NodalAuction x = new NodalAuction();
        x.line(0, 1, 1, 100);
        x.line(1, 2, 1, 3);
        x.line(0, 2, 1, 100);
        x.line(0, 3, 1, 0);
        x.offer(0, 1, 100);
        x.bid(2, 90, 100);
        x.clear();
        due(15, "welfare()", x.welfare(), 801);
        dueExtra(x, 0, 1, 1);
        dueExtra(x, 1, -88, 1);
        dueExtra(x, 2, 90, 1);
        dueExtra(x, 3, 0, 0);
    }

    private static void check() {
        NodalAuction x = cleared();
        due(18, "check(2, 2, 2, 2)", x.check(2, 2, 2, 2), 0);
        due(18, "check(6, 6, 6, 6)", x.check(6, 6, 6, 6), 2);
        due(18, "check(7, 7, 7, 7)", x.check(7, 7, 7, 7), 3);
        due(18, "check(1, 1, 1, 1)", x.check(1, 1, 1, 1), 1);
        due(18, "check(2, 2, 2, 6)", x.check(2, 2, 2, 6), 4);
        due(18, "check(2, 2, 3, 2)", x.check(2, 2, 3, 2), 4);
        due(18, "check(3, 2, 2, 2)", x.check(3, 2, 2, 2), 6);
        due(18, "check(1, 2, 2, 2)", x.check(1, 2, 2, 2), 5);
        due(18, "check(3, 3, 3, 7)", x.check(3, 3, 3, 7), 7);
        due(18, "check(-2000, -2000, -2000, 2000)", x.check(-2000, -2000, -2000, 2000), 5);
        duePricesRefused(x);
        x.limit(1, 5);
        x.clear();
        due(18, "check(2, 2, 6, 6) over a full line", x.check(2, 2, 6, 6), 0);
        due(18, "check(2, 2, 7, 7)", x.check(2, 2, 7, 7), 1);
        due(18, "check(2, 2, 1, 1)", x.check(2, 2, 1, 1), 4);
        x = chain(0);
        x.clear();
        due(18, "check of any prices where nothing can flow", x.check(5, -2000, 2000, 7), 0);
        x = chain(10);
        x.bid(1, 5, 3);
        x.clear();
        due(18, "check where a bid is left out", x.check(4, 4, 4, 4), 2);
        due(18, "check at its price", x.check(5, 5, 5, 5), 0);
        due(18, "check above its price", x.check(6, 6, 6, 6), 0);
    }

    private static void duePricesRefused(NodalAuction x) {
        for (int far : new int[] {-2001, 2001, Integer.MIN_VALUE, Integer.MAX_VALUE}) {
            due(18, "check(" + far + ", 0, 0, 0)", x.check(far, 0, 0, 0), -1);
            due(18, "check(0, " + far + ", 0, 0)", x.check(0, far, 0, 0), -1);
            due(18, "check(0, 0, " + far + ", 0)", x.check(0, 0, far, 0), -1);
            due(18, "check(0, 0, 0, " + far + ")", x.check(0, 0, 0, far), -1);
            due(19, "rent(" + far + ", 0, 0, 5)", x.rent(far, 0, 0, 5), 0);
            due(19, "rent(0, " + far + ", 0, 5)", x.rent(0, far, 0, 5), 0);
            due(19, "rent(0, 0, " + far + ", 5)", x.rent(0, 0, far, 5), 0);
            due(19, "rent(5, 0, 0, " + far + ")", x.rent(5, 0, 0, far), 0);
        }
        dueResults(18, "refused prices", x, true);
    }

    private static void rent() {
        NodalAuction x = cleared();
        due(19, "rent(2, 0, 0, 6)", x.rent(2, 0, 0, 6), 20);
        due(19, "rent(6, 0, 0, 2)", x.rent(6, 0, 0, 2), -20);
        due(19, "rent(9, 9, 9, 9)", x.rent(9, 9, 9, 9), 0);
        due(19, "rent(0, 2000, -2000, 0)", x.rent(0, 2000, -2000, 0), 0);
        due(19, "rent(-2000, 0, 0, 2000)", x.rent(-2000, 0, 0, 2000), 20000);
        x = triangle();
        due(19, "rent(10, 0, 30, 0), times the scale", x.rent(10, 0, 30, 0), 60);
        x.bid(3, 1, 1);
        due(19, "rent after a change", x.rent(10, 0, 30, 0), 0);
    }

    public static void main(String[] args) {
        due(1, "NONE", NodalAuction.NONE, NONE);
        newObject();
        line();
        limit();
        cut();
        step(5, true);
        step(6, false);
        sides();
        cancel();
        clear();
        counts();
        amounts();
        tight();
        welfare();
        extra();
        check();
        rent();
        System.out.println(wrong == 0 ? "all answers are as due" : wrong + " answers are not as due");
        if (wrong != 0) {
            System.exit(1);
        }
    }
}
