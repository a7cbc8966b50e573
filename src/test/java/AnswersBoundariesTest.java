import java.util.Map;
import java.util.function.ToLongFunction;

/** The sentences of the promises 9 to 19 that name a boundary, each with a test of its own. */
public final class AnswersBoundariesTest {
    /** The answer that is due without results, in each of the states in which there are none. */
    private static void withoutResults(String call, long want, ToLongFunction<NodalAuction> caller) {
        Due.is(call + " of a new object", caller.applyAsLong(new NodalAuction()), want);
        Due.is(call + " before clear()", caller.applyAsLong(Due.motley(6, 8)), want);
        NodalAuction x = Due.motley(2, 8);
        x.clear();
        Due.is(call + " after a refused clear()", caller.applyAsLong(x), want);
        x = Due.cleared();
        x.limit(0, 10);
        Due.is(call + " after the results' end", caller.applyAsLong(x), want);
        x = Due.cleared();
        x.cut(0);
        x.clear();
        Due.is(call + " after results and a refused clear()", caller.applyAsLong(x), want);
    }

    // Promises 9 and 10

    private static void steps() {
        NodalAuction x = new NodalAuction();
        Due.is("steps() of a new object", x.steps(), 0);
        for (int k = 1; k <= 8; k++) {
            Due.addStep(x, k - 1);
            Due.is("steps()", x.steps(), k);
        }
        x.bid(0, 1, 1);
        x.offer(0, 1, 1);
        Due.is("steps() after a ninth", x.steps(), 8);
        x.cancel(8);
        Due.is("steps() after a refused cancel", x.steps(), 8);
        for (int k = 7; k >= 0; k--) {
            x.cancel(k / 2);
            Due.is("steps()", x.steps(), k);
        }
        x.cancel(0);
        Due.is("steps() after a cancel of none", x.steps(), 0);
    }

    private static void stepsAllAlike() {
        NodalAuction x = Due.chain(10);
        for (int k = 0; k < 3; k++) {
            x.bid(1, 5, 5);
        }
        Due.is("steps() of three alike", x.steps(), 3);
        x.clear();
        Due.is("steps() where none is taken", x.steps(), 3);
    }

    private static void lines() {
        NodalAuction x = new NodalAuction();
        Due.is("lines() of a new object", x.lines(), 0);
        for (int k = 1; k <= 6; k++) {
            Due.addLine(x, k - 1);
            Due.is("lines()", x.lines(), k);
        }
        x.line(0, 1, 1, 1);
        Due.is("lines() after a seventh", x.lines(), 6);
        x.cut(6);
        Due.is("lines() after a refused cut", x.lines(), 6);
        for (int k = 5; k >= 0; k--) {
            x.cut(k / 2);
            Due.is("lines()", x.lines(), k);
        }
        x.cut(0);
        Due.is("lines() after a cut of none", x.lines(), 0);
    }

    // Promise 11

    private static void scaleOfWholeNumbers() {
        NodalAuction x = Due.web(1000);
        x.offer(0, 1, 4);
        x.bid(3, 2, 4);
        x.clear();
        Due.is("scale() of 4 units, parted into 2, 1, 1", x.scale(), 1);
        x = Due.web(1000);
        x.offer(0, 2, 3);
        x.bid(3, 1, 3);
        x.clear();
        Due.is("scale() where nothing is taken", x.scale(), 1);
    }

    private static void scaleByTheFlows() {
        for (int quantity = 1; quantity <= 4; quantity++) {
            NodalAuction x = Due.web(1000);
            x.offer(0, 1, quantity);
            x.bid(3, 2, quantity);
            x.clear();
            int scale = quantity == 4 ? 1 : quantity == 2 ? 2 : 4;
            Due.dueAmounts(quantity + " units", x, scale, (long) quantity * scale, (long) quantity * scale);
        }
    }

    private static void scaleByTheAmounts() {
        NodalAuction x = Due.triangle(1);
        x.offer(0, 1, 9);
        x.bid(2, 2, 9);
        x.clear();
        Due.dueAmounts("1 over the narrow line, 1 / 2 round it", x, 2, 3, 3);
        Due.dueFlows("1 over the narrow line, 1 / 2 round it", x, 1, 1, 2, 0);
    }

    /** Flows of 5 / 3, 1 and thrice - 1 / 2: no bottom of theirs is 6, but the scale is. */
    private static void scaleOfUnlikeFractions() {
        NodalAuction x = new NodalAuction();
        x.line(0, 1, 2, 100);
        x.line(0, 3, 3, 1);
        x.line(1, 2, 2, 100);
        x.line(1, 3, 1, 100);
        x.line(2, 3, 2, 100);
        x.offer(0, 4, 8);
        x.bid(1, 6, 6);
        x.clear();
        Due.dueAmounts("8 / 3 units", x, 6, 16, 16);
        Due.dueFlows("8 / 3 units", x, 10, 6, -3, -3, -3);
    }

    private static void scaleWithoutSteps() {
        NodalAuction x = Due.web(1000);
        x.clear();
        Due.is("scale()", x.scale(), 1);
        x = Due.motley(6, 8);
        x.clear();
        Due.is("scale() is above 1 with steps", x.scale() > 1, true);
        for (int k = 7; k >= 0; k--) {
            x.cancel(k);
        }
        x.clear();
        Due.is("scale() after the last step is gone", x.scale(), 1);
        x = Due.web(0);
        x.clear();
        Due.is("scale() over limits of 0", x.scale(), 1);
    }

    // Promise 12

    private static void acceptedOfNoStep() {
        for (int steps = 0; steps <= 8; steps++) {
            NodalAuction x = Due.motley(6, steps);
            x.clear();
            for (int k : Due.noNumber(steps)) {
                Due.is("accepted(" + k + ") of " + steps, x.accepted(k), Due.NONE);
            }
            for (int k = 0; k < steps; k++) {
                Due.is("accepted(" + k + ") of " + steps + " is an amount", x.accepted(k) >= 0, true);
            }
        }
    }

    private static void acceptedAfterFewerSteps() {
        NodalAuction x = Due.motley(6, 8);
        x.clear();
        x.cancel(7);
        x.clear();
        Due.is("accepted(7) of 7", x.accepted(7), Due.NONE);
        Due.is("accepted(6) of 7 is an amount", x.accepted(6) >= 0, true);
    }

    private static void acceptedFromNothingToAll() {
        NodalAuction x = Due.chain(1000);
        x.offer(0, 0, 1000);
        x.offer(0, 1, 1000);
        x.bid(3, 1000, 1000);
        x.clear();
        Due.dueAmounts("all, nothing, all", x, 1, 1000, 0, 1000);
    }

    // Promise 13

    private static void flowOfNoLine() {
        for (int lines = 3; lines <= 6; lines++) {
            NodalAuction x = Due.motley(lines, 8);
            x.clear();
            for (int k : Due.noNumber(lines)) {
                Due.is("flow(" + k + ") of " + lines, x.flow(k), Due.NONE);
            }
            for (int k = 0; k < lines; k++) {
                Due.is("flow(" + k + ") of " + lines + " is a flow", x.flow(k) != Due.NONE, true);
            }
        }
    }

    private static void flowAfterFewerLines() {
        NodalAuction x = Due.motley(6, 8);
        x.clear();
        x.cut(5);
        x.clear();
        Due.is("flow(5) of 5", x.flow(5), Due.NONE);
        Due.is("flow(4) of 5 is a flow", x.flow(4) != Due.NONE, true);
    }

    private static void flowWithoutSteps() {
        NodalAuction x = Due.web(7);
        x.clear();
        Due.dueFlows("no steps", x, 0, 0, 0, 0, 0, 0);
    }

    /** 1000 and - 1000, on a line with that limit. */
    private static void flowAtItsGreatest() {
        for (int from = 0; from <= 3; from += 3) {
            NodalAuction x = Due.chain(1000);
            x.offer(from, 1, 1000);
            x.offer(from, 1, 1000);
            x.bid(3 - from, 2, 1000);
            x.bid(3 - from, 2, 1000);
            x.clear();
            long flow = from == 0 ? 1000 : -1000;
            Due.dueFlows("from node " + from, x, flow, flow, flow);
        }
    }

    // Promise 14

    /** From node 0 to node 3 over all six lines: 1 / 2 straight, 1 / 4 by each other node, nothing over line 3. */
    private static NodalAuction acrossTheWeb(int quantity, int... limits) {
        NodalAuction x = Due.web(1000);
        for (int k = 0; k < 6; k++) {
            x.limit(k, limits[k]);
        }
        x.offer(0, 1, 1000);
        x.bid(3, 9, quantity);
        x.clear();
        return x;
    }

    private static void tightAtTheLimit() {
        Due.is("all six lines", acrossTheWeb(4, 1, 1, 2, 0, 1, 1).tight(), 63);
        Due.is("all but one that could carry 1", acrossTheWeb(4, 1, 1, 2, 1, 1, 1).tight(), 63 - 8);
        Due.is("all but one that could carry 3", acrossTheWeb(4, 1, 1, 3, 0, 1, 1).tight(), 63 - 4);
        Due.is("line 0 alone", acrossTheWeb(8, 2, 3, 5, 1, 3, 3).tight(), 1);
        Due.is("line 5 alone", acrossTheWeb(8, 3, 3, 5, 1, 3, 2).tight(), 32);
    }

    private static void tightJustBelowTheLimit() {
        Due.is("flows of 3 / 4 and 3 / 2", acrossTheWeb(3, 1, 1, 2, 1, 1, 1).tight(), 0);
        Due.is("flows of 7 / 4 and 7 / 2", acrossTheWeb(7, 2, 2, 4, 1, 2, 2).tight(), 0);
        Due.is("flows of 2 and 4, line 2 of 5", acrossTheWeb(8, 3, 3, 5, 1, 3, 3).tight(), 0);
        Due.is("flows of 249 3 / 4 and 499 1 / 2", acrossTheWeb(999, 250, 250, 500, 1, 250, 250).tight(), 0);
        Due.is("flows of 250 and 500", acrossTheWeb(1000, 250, 250, 500, 1, 250, 250).tight(), 63 - 8);
    }

    private static void tightAtMinusTheLimit() {
        for (int limit = 4; limit <= 6; limit++) {
            NodalAuction x = Due.chain(limit);
            x.offer(3, 1, 5);
            x.bid(0, 2, 5);
            x.clear();
            Due.is("5 from node 3 to node 0, limits " + limit, x.tight(), limit == 6 ? 0 : 7);
        }
    }

    private static void tightWithLimitZero() {
        for (int chosen = 0; chosen < 64; chosen++) {
            NodalAuction x = new NodalAuction();
            int k = 0;
            for (int a = 0; a < 4; a++) {
                for (int b = a + 1; b < 4; b++) {
                    x.line(a, b, 1, (chosen >> k & 1) != 0 ? 0 : 7);
                    k++;
                }
            }
            x.clear();
            Due.is("tight() without steps, limits of 0 at " + chosen, x.tight(), chosen);
        }
    }

    // Promise 15

    private static void welfareNeverBelowZero() {
        NodalAuction x = Due.chain(10);
        x.clear();
        Due.is("welfare() without steps", x.welfare(), 0);
        x.offer(0, 1000, 1000);
        x.clear();
        Due.is("welfare() of an offer alone", x.welfare(), 0);
        x.bid(3, 999, 1000);
        x.clear();
        Due.is("welfare() of a bid 1 below the offer", x.welfare(), 0);
        x.bid(3, 1000, 1000);
        x.clear();
        Due.is("welfare() of a bid at the offer", x.welfare(), 0);
        Due.is("accepted(2)", x.accepted(2), 10);
        x.offer(0, 999, 1);
        x.clear();
        Due.is("welfare() with an offer 1 below", x.welfare(), 1);
    }

    /** Four deals of 1000 units at a gain of 1000, one of them parted into 1449ths. */
    private static NodalAuction greatest() {
        NodalAuction x = new NodalAuction();
        x.line(0, 1, 5, 1000);
        x.line(0, 2, 4, 1000);
        x.line(0, 3, 5, 1000);
        x.line(1, 2, 5, 1000);
        x.line(1, 3, 4, 1000);
        x.line(2, 3, 4, 1000);
        x.offer(0, 0, 1000);
        x.bid(3, 1000, 1000);
        for (int k = 0; k < 3; k++) {
            x.bid(1, 1000, 1000);
            x.offer(1, 0, 1000);
        }
        x.clear();
        return x;
    }

    private static void welfareBeyondInt() {
        Due.is("scale()", greatest().scale(), 1449);
        Due.is("accepted(1)", greatest().accepted(1), 1449000);
        Due.dueFlows("1000 units", greatest(), 360000, 304000, 785000, 20000, 340000, 324000);
        Due.is("welfare()", greatest().welfare(), 5796000000L);
    }

    private static void welfareTimesTheScale() {
        NodalAuction x = Due.triangle(1);
        x.offer(0, 1, 9);
        x.bid(2, 4, 9);
        x.clear();
        Due.is("welfare() of 3 / 2 at 3, scale 2", x.welfare(), 9);
    }

    // Promises 16 and 17

    private static void dueExtra(String when, NodalAuction x, int node, long top, long bottom) {
        Due.is(when + ": extraTop(" + node + ")", x.extraTop(node), top);
        Due.is(when + ": extraBottom(" + node + ")", x.extraBottom(node), bottom);
    }

    private static void extraAtNoNode() {
        NodalAuction x = Due.cleared();
        for (int node : Due.outside(0, 3)) {
            dueExtra("no node", x, node, 0, 0);
        }
        for (int node = 0; node < 4; node++) {
            dueExtra("a node", x, node, 2, 1);
        }
    }

    private static void extraOfZero() {
        NodalAuction x = Due.chain(10);
        x.offer(1, 0, 1);
        x.clear();
        for (int node = 0; node < 4; node++) {
            dueExtra("an offer of 1 at price 0", x, node, 0, 1);
        }
        x = Due.triangle(1);
        x.offer(0, 0, 9);
        x.bid(2, 4, 9);
        x.clear();
        dueExtra("price 0 where the scale is 2", x, 0, 0, 1);
        dueExtra("price 0 where the scale is 2", x, 3, 0, 1);
    }

    private static void extraBelowZero() {
        NodalAuction x = new NodalAuction();
        x.line(0, 1, 1, 100);
        x.line(1, 2, 1, 1);
        x.line(0, 2, 2, 100);
        x.line(2, 3, 1, 100);
        x.offer(0, 1, 6);
        x.bid(1, 6, 4);
        x.clear();
        Due.dueAmounts("5 / 2 units over the narrow line", x, 2, 5, 5);
        dueExtra("one more unit relieves the narrow line", x, 2, -3, 2);
        dueExtra("one more unit relieves the narrow line", x, 3, -3, 2);
        dueExtra("one more unit at the offer", x, 0, 1, 1);
    }

    /** The welfare is 27 / 2; with one more unit it is 25 / 2, 7 / 2 or 8: halves that cancel and halves that stay. */
    private static void extraInLowestTerms() {
        NodalAuction x = Due.triangle(1);
        x.offer(0, 1, 9);
        x.bid(2, 10, 9);
        x.clear();
        Due.is("welfare() of 3 / 2 at 9, scale 2", x.welfare(), 27);
        dueExtra("from the offer", x, 0, 1, 1);
        dueExtra("from the bid", x, 2, 10, 1);
        dueExtra("half from each", x, 1, 11, 2);
        dueExtra("over another line", x, 3, 1, 1);
        x = new NodalAuction();
        x.line(0, 1, 2, 100);
        x.line(0, 3, 3, 1);
        x.line(1, 2, 2, 100);
        x.line(1, 3, 1, 100);
        x.line(2, 3, 2, 100);
        x.offer(0, 4, 8);
        x.bid(1, 6, 6);
        x.clear();
        dueExtra("from the offer, scale 6", x, 0, 4, 1);
        dueExtra("from the bid, scale 6", x, 1, 6, 1);
    }

    private static void extraWithoutSuchADispatch() {
        NodalAuction x = Due.web(1000);
        x.clear();
        for (int node = 0; node < 4; node++) {
            dueExtra("no steps", x, node, 0, 0);
        }
        x.bid(0, 1000, 1000);
        x.clear();
        for (int node = 0; node < 4; node++) {
            dueExtra("a bid alone", x, node, 0, 0);
        }
        x = Due.chain(10);
        x.limit(1, 0);
        x.offer(0, 5, 9);
        x.clear();
        dueExtra("beside the line of limit 0", x, 0, 5, 1);
        dueExtra("before the line of limit 0", x, 1, 5, 1);
        dueExtra("behind the line of limit 0", x, 2, 0, 0);
        dueExtra("far behind the line of limit 0", x, 3, 0, 0);
        x.limit(1, 1);
        x.clear();
        dueExtra("behind a line of limit 1", x, 3, 5, 1);
    }

    private static void extraFromOneUnit() {
        NodalAuction x = Due.chain(1);
        x.offer(0, 3, 1);
        x.clear();
        dueExtra("an offer of just 1 over limits of just 1", x, 3, 3, 1);
        x.bid(1, 7, 1);
        x.clear();
        Due.is("accepted(1)", x.accepted(1), 1);
        dueExtra("the bid gives way", x, 3, 7, 1);
        dueExtra("the bid gives way at its own node", x, 1, 7, 1);
    }

    /** Nodes 0 and 2 are kept at one height, so that 1 at node 2 goes with 5 at node 0. */
    private static NodalAuction fiveForOne(int limit, int bid, int offer) {
        NodalAuction x = new NodalAuction();
        x.line(3, 0, 5, limit);
        x.line(3, 2, 1, 10);
        x.line(0, 2, 1, 0);
        x.line(0, 1, 1, 0);
        x.offer(3, 2, offer);
        x.bid(0, 1, bid);
        x.clear();
        return x;
    }

    private static void extraJustCarried() {
        dueExtra("a limit of just 5", fiveForOne(5, 9, 9), 2, 7, 1);
        dueExtra("a limit of 4, for 4 / 5", fiveForOne(4, 9, 9), 2, 0, 0);
        dueExtra("a bid of just 5", fiveForOne(9, 5, 9), 2, 7, 1);
        dueExtra("a bid of 4, for 4 / 5", fiveForOne(9, 4, 9), 2, 0, 0);
        dueExtra("an offer of just 6", fiveForOne(9, 9, 6), 2, 7, 1);
        dueExtra("an offer of 5, for 5 / 6", fiveForOne(9, 9, 5), 2, 0, 0);
    }

    private static void extraOfGreatNumbers() {
        NodalAuction x = greatest();
        for (int node = 0; node < 4; node++) {
            dueExtra("every bid is as dear", x, node, 1000, 1);
        }
    }

    private static void extraAsksOnly() {
        NodalAuction x = Due.motley(6, 8);
        x.clear();
        Map<String, Long> before = Due.picture(x);
        for (int node = -1; node <= 4; node++) {
            x.extraTop(node);
            x.extraBottom(node);
        }
        Due.same("after extraTop and extraBottom", Due.picture(x), before);
    }

    // Promise 18

    /** The same price at each node, so that the grid gains nothing whatever it carries. */
    private static void dueCheck(String when, NodalAuction x, int price, int want) {
        Due.is(when + ": check of " + price + " everywhere", x.check(price, price, price, price), want);
    }

    private static NodalAuction pair(int bidPrice, int bidQuantity, int offerPrice, int offerQuantity) {
        NodalAuction x = Due.chain(1000);
        x.bid(0, bidPrice, bidQuantity);
        x.offer(3, offerPrice, offerQuantity);
        x.clear();
        return x;
    }

    private static void bidThatLoses() {
        NodalAuction x = pair(10, 3, 4, 3);
        dueCheck("the bid at its price", x, 10, 0);
        dueCheck("the bid below the price", x, 11, 1);
        dueCheck("the bid far below the price", x, 2000, 1);
    }

    private static void offerThatLoses() {
        NodalAuction x = pair(10, 3, 4, 3);
        dueCheck("the offer at its price", x, 4, 0);
        dueCheck("the offer above the price", x, 3, 1);
        dueCheck("the offer far above the price", x, -2000, 1);
    }

    /** An amount of 1 / 5 is enough to lose, an amount of 0 is not. */
    private static void amountAboveZero() {
        NodalAuction x = new NodalAuction();
        x.line(3, 0, 5, 1);
        x.line(3, 1, 1, 10);
        x.line(0, 1, 1, 0);
        x.line(0, 2, 1, 0);
        x.offer(3, 1, 9);
        x.bid(0, 9, 9);
        x.bid(1, 2, 9);
        x.clear();
        Due.is("accepted(2), a fifth", x.accepted(2), 1);
        Due.is("check with node 1 at 2", x.check(9, 2, 0, 1) & 1, 0);
        Due.is("check with node 1 at 3", x.check(9, 3, 0, 1) & 1, 1);
        x = pair(4, 3, 10, 3);
        dueCheck("a bid of amount 0 below the price", x, 10, 0);
        dueCheck("an offer of amount 0 above the price", x, 4, 0);
        dueCheck("both of amount 0", x, 7, 0);
    }

    private static void bidThatWouldGain() {
        NodalAuction x = pair(10, 5, 4, 3);
        dueCheck("the bid at its price", x, 10, 0);
        dueCheck("the bid above the price", x, 9, 2);
        dueCheck("the bid below the price", x, 11, 1);
        x = pair(4, 3, 10, 3);
        dueCheck("a bid of amount 0 at its price", x, 4, 0);
        dueCheck("a bid of amount 0 above the price", x, 3, 2);
    }

    private static void offerThatWouldGain() {
        NodalAuction x = pair(10, 3, 4, 5);
        dueCheck("the offer at its price", x, 4, 0);
        dueCheck("the offer below the price", x, 5, 2);
        dueCheck("the offer above the price", x, 3, 1);
        x = pair(4, 3, 10, 3);
        dueCheck("an offer of amount 0 at its price", x, 10, 0);
        dueCheck("an offer of amount 0 below the price", x, 11, 2);
    }

    /** Full but for 1 / 5, then just full. */
    private static void amountBelowTheQuantity() {
        for (int limit = 4; limit <= 5; limit++) {
            NodalAuction x = new NodalAuction();
            x.line(3, 0, 5, limit);
            x.line(3, 1, 1, 10);
            x.line(0, 1, 1, 0);
            x.line(0, 2, 1, 0);
            x.offer(3, 1, 9);
            x.bid(0, 2, 9);
            x.bid(1, 9, 1);
            x.clear();
            Due.is("accepted(2) of limit " + limit, x.accepted(2), limit == 4 ? 4 : 1);
            Due.is("check of limit " + limit, x.check(2, 8, 0, 1) & 2, limit == 4 ? 2 : 0);
        }
    }

    private static void bothLoseAndWouldGain() {
        NodalAuction x = pair(10, 5, 4, 3);
        dueCheck("the offer loses, the bid would gain", x, 3, 3);
        dueCheck("the bid alone would gain", x, 4, 2);
        x = pair(10, 3, 4, 5);
        dueCheck("the bid loses, the offer would gain", x, 11, 3);
        dueCheck("the offer alone would gain", x, 10, 2);
    }

    /** A deal at each node, each of one unit; one step, which may be any, has the price 5 and the quantity. */
    private static NodalAuction dealsButOne(int odd, int quantity) {
        NodalAuction x = Due.chain(0);
        for (int k = 0; k < 8; k++) {
            boolean isBid = k % 2 == 0;
            Due.add(x, isBid, k / 2, k == odd ? 5 : isBid ? 9 : 1, k == odd ? quantity : 1);
        }
        x.clear();
        return x;
    }

    private static void someStepIsEnough() {
        for (int odd = 0; odd < 8; odd++) {
            boolean isBid = odd % 2 == 0;
            NodalAuction x = dealsButOne(odd, 1);
            dueCheck("step " + odd + " at its price", x, 5, 0);
            dueCheck("step " + odd + " loses", x, isBid ? 6 : 4, 1);
            x = dealsButOne(odd, 2);
            dueCheck("step " + odd + " at its price, not full", x, 5, 0);
            dueCheck("step " + odd + " would gain", x, isBid ? 4 : 6, 2);
        }
    }

    private static void gridCarriesMore() {
        NodalAuction x = Due.chain(10);
        x.clear();
        dueCheck("no steps", x, 0, 0);
        dueCheck("no steps", x, 2000, 0);
        dueCheck("no steps", x, -2000, 0);
        for (int n = 0; n < 4; n++) {
            Due.is("1 at node " + n, checkOfNode(x, n, 1), 4);
            Due.is("-1 at node " + n, checkOfNode(x, n, -1), 4);
        }
    }

    private static int checkOfNode(NodalAuction x, int n, int price) {
        return x.check(n == 0 ? price : 0, n == 1 ? price : 0, n == 2 ? price : 0, n == 3 ? price : 0);
    }

    private static void gridCarriesNothing() {
        NodalAuction x = Due.web(0);
        x.clear();
        Due.is("limits of 0", x.check(-2000, 2000, -1999, 1999), 0);
        x.limit(5, 1);
        x.clear();
        Due.is("one limit of 1 between nodes that others keep at one height", x.check(-2000, 2000, -1999, 1999), 0);
        x = Due.chain(0);
        x.limit(1, 1);
        x.clear();
        Due.is("a limit of 1 between prices alike", x.check(-2000, 7, 7, 2000), 0);
        Due.is("a limit of 1 between prices that differ by 1", x.check(-2000, 7, 8, 2000), 4);
        Due.is("a limit of 1 between prices that differ by - 1", x.check(-2000, 8, 7, 2000), 4);
    }

    /** The line is full from node 1 to node 2: the grid carries no more to a dearer node 2. */
    private static void gridCarriesAsMuch() {
        NodalAuction x = Due.cleared();
        x.limit(1, 5);
        x.clear();
        Due.is("as dear", x.check(4, 4, 4, 4) & 4, 0);
        Due.is("1 dearer behind the full line", x.check(4, 4, 5, 5) & 4, 0);
        Due.is("1 cheaper behind the full line", x.check(5, 5, 4, 4) & 4, 4);
        Due.is("dearest behind the full line", x.check(-2000, -2000, 2000, 2000) & 4, 0);
        Due.is("before the full line", x.check(4, 5, 5, 5) & 4, 4);
        x.limit(1, 6);
        x.clear();
        Due.is("room for 1 more", x.check(4, 4, 5, 5) & 4, 4);
    }

    private static void gridRoundATriangle() {
        NodalAuction x = Due.triangle(1);
        x.offer(0, 10, 9);
        x.bid(2, 30, 9);
        x.clear();
        Due.is("node 1 half way between", x.check(10, 20, 30, 10), 0);
        Due.is("node 1 above", x.check(10, 21, 30, 10), 4);
        Due.is("node 1 below", x.check(10, 19, 30, 10), 4);
        Due.is("node 3 above node 0", x.check(10, 20, 30, 11), 4);
    }

    /** Three full lines of 1000 at prices as far apart as can be, and 1 less on one of them. */
    private static void gridAtTheGreatestPrices() {
        for (int last = 999; last <= 1000; last++) {
            for (int middle = 0; middle < 2; middle++) {
                boolean out = middle == 0;
                NodalAuction x = new NodalAuction();
                for (int n = 1; n < 4; n++) {
                    x.line(0, n, n, 1000);
                    Due.add(x, !out, 0, out ? 1 : 1000, 1000);
                    Due.add(x, out, n, out ? 1000 : 1, n == 3 ? last : 1000);
                }
                x.clear();
                int p = out ? 2000 : -2000;
                Due.is("accepted(5)", x.accepted(5), last);
                Due.is("check with " + last, x.check(-p, p, p, p), last == 1000 ? 1 : 5);
                Due.is("rent with " + last, x.rent(-p, p, p, p), 4000L * (2000 + last));
            }
        }
    }

    /** No line is full, so that the grid carries more at any prices that differ. */
    private static void gridInGreatFractions() {
        NodalAuction x = greatest();
        for (int p = -2000; p <= 2000; p += 20) {
            Due.is("check(" + p + ", 0, 0, 2000)", x.check(p, 0, 0, 2000) & 4, 4);
            Due.is("check(0, 0, " + p + ", -2000)", x.check(0, 0, p, -2000) & 4, 4);
        }
    }

    private static void supportInGreatFractions() {
        NodalAuction x = greatest();
        for (int p = -4; p <= 1004; p += 4) {
            dueCheck("bids of 1000, offers of 0, all full", x, p, p < 0 || p > 1000 ? 1 : 0);
        }
    }

    private static void allThree() {
        NodalAuction x = Due.cleared();
        Due.is("check(3, 3, 3, 7)", x.check(3, 3, 3, 7), 7);
        Due.is("check(2, 2, 2, 2)", x.check(2, 2, 2, 2), 0);
    }

    private static void checkOfPricesBeyond() {
        NodalAuction x = Due.cleared();
        for (int p : Due.outside(-2000, 2000)) {
            Due.is("check(" + p + ", 2, 2, 2)", x.check(p, 2, 2, 2), -1);
            Due.is("check(2, " + p + ", 2, 2)", x.check(2, p, 2, 2), -1);
            Due.is("check(2, 2, " + p + ", 2)", x.check(2, 2, p, 2), -1);
            Due.is("check(2, 2, 2, " + p + ")", x.check(2, 2, 2, p), -1);
            Due.is("check of " + p + " everywhere", x.check(p, p, p, p), -1);
        }
        Due.hasResults("after refused prices", x);
    }

    private static void checkOfPricesWithin() {
        for (int p : Due.inside(-2000, 2000)) {
            NodalAuction x = Due.chain(0);
            x.clear();
            Due.is("check(" + p + ", 2, 2, 2)", x.check(p, 2, 2, 2), 0);
            Due.is("check(2, " + p + ", 2, 2)", x.check(2, p, 2, 2), 0);
            Due.is("check(2, 2, " + p + ", 2)", x.check(2, 2, p, 2), 0);
            Due.is("check(2, 2, 2, " + p + ")", x.check(2, 2, 2, p), 0);
            x = Due.cleared();
            dueCheck("bid of 6, offer of 2 not full", x, p, p < 2 ? 1 : 3);
        }
    }

    private static void checkAsksOnly() {
        NodalAuction x = Due.motley(6, 8);
        x.clear();
        Map<String, Long> before = Due.picture(x);
        x.check(-2000, 2000, 7, 0);
        x.check(-2001, 2000, 7, 0);
        x.rent(-2000, 2000, 7, 0);
        x.rent(-2000, 2000, 7, 2001);
        Due.same("after check and rent", Due.picture(x), before);
    }

    // Promise 19

    private static void rentOfPricesBeyond() {
        NodalAuction x = Due.cleared();
        for (int p : Due.outside(-2000, 2000)) {
            Due.is("rent(" + p + ", 0, 0, 6)", x.rent(p, 0, 0, 6), 0);
            Due.is("rent(2, " + p + ", 0, 6)", x.rent(2, p, 0, 6), 0);
            Due.is("rent(2, 0, " + p + ", 6)", x.rent(2, 0, p, 6), 0);
            Due.is("rent(2, 0, 0, " + p + ")", x.rent(2, 0, 0, p), 0);
        }
        Due.hasResults("after refused prices", x);
    }

    /** Intakes of -4, 1, 2 and 1. */
    private static void rentOfPricesWithin() {
        NodalAuction x = Due.chain(10);
        x.offer(0, 1, 9);
        x.bid(1, 9, 1);
        x.bid(2, 9, 2);
        x.bid(3, 9, 1);
        x.clear();
        for (int p : Due.inside(-2000, 2000)) {
            Due.is("rent(" + p + ", 0, 0, 0)", x.rent(p, 0, 0, 0), -4L * p);
            Due.is("rent(0, " + p + ", 0, 0)", x.rent(0, p, 0, 0), p);
            Due.is("rent(0, 0, " + p + ", 0)", x.rent(0, 0, p, 0), 2L * p);
            Due.is("rent(0, 0, 0, " + p + ")", x.rent(0, 0, 0, p), p);
            Due.is("rent of " + p + " everywhere", x.rent(p, p, p, p), 0);
        }
    }

    private static void rentBelowZero() {
        NodalAuction x = Due.cleared();
        Due.is("rent(6, 0, 0, 2)", x.rent(6, 0, 0, 2), -20);
        Due.is("rent(2, 0, 0, 6)", x.rent(2, 0, 0, 6), 20);
        Due.is("rent(3, 0, 0, 3)", x.rent(3, 0, 0, 3), 0);
    }

    private static void rentWithoutSteps() {
        NodalAuction x = Due.web(1000);
        x.clear();
        Due.is("rent(-2000, 2000, 5, 6)", x.rent(-2000, 2000, 5, 6), 0);
    }

    private static void rentBeyondInt() {
        Due.is("rent(-2000, 0, 0, 2000)", greatest().rent(-2000, 0, 0, 2000), 5796000000L);
        Due.is("rent(2000, 0, 0, -2000)", greatest().rent(2000, 0, 0, -2000), -5796000000L);
        Due.is("rent(0, 2000, 0, 0)", greatest().rent(0, 2000, 0, 0), 0);
    }

    private static void rentTimesTheScale() {
        NodalAuction x = Due.triangle(1);
        x.offer(0, 1, 9);
        x.bid(2, 4, 9);
        x.clear();
        Due.is("rent(1, 0, 4, 0) of 3 / 2, scale 2", x.rent(1, 0, 4, 0), 9);
        Due.is("rent(0, 0, 1, 0) of 3 / 2, scale 2", x.rent(0, 0, 1, 0), 3);
    }

    private static void countsAndAmounts() {
        Due.sentence("Promise 9", "The number of steps", AnswersBoundariesTest::steps);
        Due.sentence("Promise 9", "The number of steps: not of different ones, nor of those taken", AnswersBoundariesTest::stepsAllAlike);
        Due.sentence("Promise 10", "The number of lines", AnswersBoundariesTest::lines);
        Due.sentence("Promise 11", "the least whole number above 0: of whole numbers", AnswersBoundariesTest::scaleOfWholeNumbers);
        Due.sentence("Promise 11", "times .. the flow of any line", AnswersBoundariesTest::scaleByTheFlows);
        Due.sentence("Promise 11", "times the amount of any step", AnswersBoundariesTest::scaleByTheAmounts);
        Due.sentence("Promise 11", "always gives a whole number", AnswersBoundariesTest::scaleOfUnlikeFractions);
        Due.sentence("Promise 11", "1 when there are results without steps", AnswersBoundariesTest::scaleWithoutSteps);
        Due.sentence("Promise 11", "0 when there are no results", () -> withoutResults("scale()", 0, NodalAuction::scale));
        Due.sentence("Promise 12", "NONE when there are no results", () -> withoutResults("accepted(0)", Due.NONE, x -> x.accepted(0)));
        Due.sentence("Promise 12", "NONE when .. no step k", AnswersBoundariesTest::acceptedOfNoStep);
        Due.sentence("Promise 12", "no step k: no longer", AnswersBoundariesTest::acceptedAfterFewerSteps);
        Due.sentence("Promise 12", "The amount of step k in the cleared dispatch, times the scale", AnswersBoundariesTest::acceptedFromNothingToAll);
        Due.sentence("Promise 13", "NONE when there are no results", () -> withoutResults("flow(0)", Due.NONE, x -> x.flow(0)));
        Due.sentence("Promise 13", "NONE when .. no line k", AnswersBoundariesTest::flowOfNoLine);
        Due.sentence("Promise 13", "no line k: no longer", AnswersBoundariesTest::flowAfterFewerLines);
        Due.sentence("Promise 13", "The flow of line k: results without steps", AnswersBoundariesTest::flowWithoutSteps);
        Due.sentence("Promise 13", "The flow of line k: the greatest and the least", AnswersBoundariesTest::flowAtItsGreatest);
        Due.sentence("Promise 14", "whose flow in the cleared dispatch is the limit", AnswersBoundariesTest::tightAtTheLimit);
        Due.sentence("Promise 14", "is the limit: not when it is just below", AnswersBoundariesTest::tightJustBelowTheLimit);
        Due.sentence("Promise 14", "or minus the limit", AnswersBoundariesTest::tightAtMinusTheLimit);
        Due.sentence("Promise 14", "so each with limit 0", AnswersBoundariesTest::tightWithLimitZero);
        Due.sentence("Promise 14", "NONE when there are no results", () -> withoutResults("tight()", Due.NONE, NodalAuction::tight));
        Due.sentence("Promise 15", "never below 0", AnswersBoundariesTest::welfareNeverBelowZero);
        Due.sentence("Promise 15", "long welfare(): beyond int", AnswersBoundariesTest::welfareBeyondInt);
        Due.sentence("Promise 15", "times the scale", AnswersBoundariesTest::welfareTimesTheScale);
        Due.sentence("Promise 15", "-1 when there are no results", () -> withoutResults("welfare()", -1, NodalAuction::welfare));
    }

    private static void extra() {
        for (int n = 0; n < 4; n++) {
            int node = n;
            Due.sentence("Promise 16", "0 when there are no results", () -> withoutResults("extraTop(" + node + ")", 0, x -> x.extraTop(node)));
            Due.sentence("Promise 17", "0 when there are no results", () -> withoutResults("extraBottom(" + node + ")", 0, x -> x.extraBottom(node)));
        }
        Due.sentence("Promises 16 and 17", "0 when .. node is not 0 .. 3", AnswersBoundariesTest::extraAtNoNode);
        Due.sentence("Promises 16 and 17", "0 is 0 / 1", AnswersBoundariesTest::extraOfZero);
        Due.sentence("Promises 16 and 17", "it may be below 0", AnswersBoundariesTest::extraBelowZero);
        Due.sentence("Promises 16 and 17", "in lowest terms, bottom above 0", AnswersBoundariesTest::extraInLowestTerms);
        Due.sentence("Promises 16 and 17", "0 when .. there is no such dispatch", AnswersBoundariesTest::extraWithoutSuchADispatch);
        Due.sentence("Promises 16 and 17", "one more unit: just one is there", AnswersBoundariesTest::extraFromOneUnit);
        Due.sentence("Promises 16 and 17", "the grid carries their intakes with 1 added: just, and just not", AnswersBoundariesTest::extraJustCarried);
        Due.sentence("Promises 16 and 17", "a fraction top / bottom: of great numbers", AnswersBoundariesTest::extraOfGreatNumbers);
        Due.sentence("Promises 16 and 17", "What one more unit at a node costs: it is not added", AnswersBoundariesTest::extraAsksOnly);
    }

    private static void checkAndRent() {
        Due.sentence("Promise 18", "1 when .. a bid whose price is below the price of its node", AnswersBoundariesTest::bidThatLoses);
        Due.sentence("Promise 18", "1 when .. an offer whose price is above it", AnswersBoundariesTest::offerThatLoses);
        Due.sentence("Promise 18", "1 when some step has an amount above 0 and loses", AnswersBoundariesTest::amountAboveZero);
        Due.sentence("Promise 18", "2 when .. a bid whose price is above the price of its node", AnswersBoundariesTest::bidThatWouldGain);
        Due.sentence("Promise 18", "2 when .. an offer whose price is below it", AnswersBoundariesTest::offerThatWouldGain);
        Due.sentence("Promise 18", "2 when some step has an amount below its quantity and would gain", AnswersBoundariesTest::amountBelowTheQuantity);
        Due.sentence("Promise 18", "the sum of 1 .. 2", AnswersBoundariesTest::bothLoseAndWouldGain);
        Due.sentence("Promise 18", "some step", AnswersBoundariesTest::someStepIsEnough);
        Due.sentence("Promise 18", "4 when the grid carries some four numbers w0 .. w3 with .. greater", AnswersBoundariesTest::gridCarriesMore);
        Due.sentence("Promise 18", "4 when the grid carries some four numbers: a line with limit 0", AnswersBoundariesTest::gridCarriesNothing);
        Due.sentence("Promise 18", "greater than the same sum over the intakes of the cleared dispatch: not as great", AnswersBoundariesTest::gridCarriesAsMuch);
        Due.sentence("Promise 18", "the grid carries some four numbers: round a ring", AnswersBoundariesTest::gridRoundATriangle);
        Due.sentence("Promise 18", "p0 * w0 + p1 * w1 + p2 * w2 + p3 * w3: at its greatest", AnswersBoundariesTest::gridAtTheGreatestPrices);
        Due.sentence("Promise 18", "p0 * w0 + p1 * w1 + p2 * w2 + p3 * w3: in 1449ths", AnswersBoundariesTest::gridInGreatFractions);
        Due.sentence("Promise 18", "0 when they support it: in 1449ths", AnswersBoundariesTest::supportInGreatFractions);
        Due.sentence("Promise 18", "the sum of 1 .. 2 .. 4 .. 0 when they support it", AnswersBoundariesTest::allThree);
        Due.sentence("Promise 18", "-1 when there are no results", () -> withoutResults("check(2, 2, 2, 2)", -1, x -> x.check(2, 2, 2, 2)));
        Due.sentence("Promise 18", "-1 when .. one of the prices is not -2000 .. 2000", AnswersBoundariesTest::checkOfPricesBeyond);
        Due.sentence("Promise 18", "prices .. -2000 .. 2000: they count as they are", AnswersBoundariesTest::checkOfPricesWithin);
        Due.sentence("Promise 18", "Whether prices .. support the cleared dispatch: they change nothing", AnswersBoundariesTest::checkAsksOnly);
        Due.sentence("Promise 19", "0 when there are no results", () -> withoutResults("rent(2, 0, 0, 6)", 0, x -> x.rent(2, 0, 0, 6)));
        Due.sentence("Promise 19", "0 when .. one of the prices is not -2000 .. 2000", AnswersBoundariesTest::rentOfPricesBeyond);
        Due.sentence("Promise 19", "the sum over the nodes of price * intake", AnswersBoundariesTest::rentOfPricesWithin);
        Due.sentence("Promise 19", "What the bids pay less what the offers get: below 0", AnswersBoundariesTest::rentBelowZero);
        Due.sentence("Promise 19", "price * intake: results without steps", AnswersBoundariesTest::rentWithoutSteps);
        Due.sentence("Promise 19", "long rent(..): beyond int", AnswersBoundariesTest::rentBeyondInt);
        Due.sentence("Promise 19", "times the scale", AnswersBoundariesTest::rentTimesTheScale);
    }

    public static void main(String[] args) {
        countsAndAmounts();
        extra();
        checkAndRent();
        Due.end();
    }
}
