import java.util.Map;
import java.util.function.Consumer;
import java.util.function.ToLongFunction;

/** The sentences of the promises 1 to 8 that name a boundary, each with a test of its own. */
public final class ChangesBoundariesTest {
    /**
     * The call is refused, and changes nothing: neither results that are there, nor that there are
     * none, nor what a later clear() finds.
     */
    private static void refused(String call, long answer, int lines, int steps, ToLongFunction<NodalAuction> caller) {
        NodalAuction x = Due.motley(lines, steps);
        NodalAuction y = Due.motley(lines, steps);
        Due.is(call, caller.applyAsLong(x), answer);
        Due.alike("after " + call, x, y);
        Map<String, Long> before = Due.picture(x);
        Due.is(call + " with results", caller.applyAsLong(x), answer);
        Due.same("after " + call + " with results", Due.picture(x), before);
        Due.alike("after " + call + " with results", x, y);
    }

    private static void refusedLine(int lines, int a, int b, int strength, int limit) {
        String call = "line(" + a + ", " + b + ", " + strength + ", " + limit + ")";
        refused(call, Due.NONE, lines, 6, x -> x.line(a, b, strength, limit));
    }

    private static void refusedLimit(int lines, int k, int limit) {
        refused("limit(" + k + ", " + limit + ")", 0, lines, 6, x -> x.limit(k, limit) ? 1 : 0);
    }

    private static void refusedCut(int lines, int k) {
        refused("cut(" + k + ")", 0, lines, 6, x -> x.cut(k) ? 1 : 0);
    }

    private static void refusedStep(boolean isBid, int steps, int node, int price, int quantity) {
        String call = (isBid ? "bid(" : "offer(") + node + ", " + price + ", " + quantity + ")";
        refused(call, Due.NONE, 5, steps, x -> Due.add(x, isBid, node, price, quantity));
    }

    private static void refusedCancel(int steps, int k) {
        refused("cancel(" + k + ")", 0, 5, steps, x -> x.cancel(k) ? 1 : 0);
    }

    // Promise 1

    private static void aNewObject() {
        NodalAuction x = new NodalAuction();
        Due.is("lines()", x.lines(), 0);
        Due.is("steps()", x.steps(), 0);
        Due.noResults("a new object", x);
        Due.is("cut(0)", x.cut(0), false);
        Due.is("limit(0, 5)", x.limit(0, 5), false);
        Due.is("cancel(0)", x.cancel(0), false);
        Due.is("clear()", x.clear(), Due.NONE);
    }

    private static void aNewObjectBesideAnother() {
        NodalAuction x = Due.cleared();
        NodalAuction y = new NodalAuction();
        Due.noResults("a second object", y);
        Due.is("lines() of the second", y.lines(), 0);
        Due.is("steps() of the second", y.steps(), 0);
        Due.is("line of the second", y.line(3, 2, 5, 0), 0);
        Due.is("bid of the second", y.bid(0, 1, 1), 0);
        y.clear();
        Due.hasResults("the first", x);
        Due.is("lines() of the first", x.lines(), 3);
        Due.is("steps() of the first", x.steps(), 2);
    }

    // Promise 2

    private static void lineFromNoNode() {
        for (int a : Due.outside(0, 3)) {
            for (int b = 0; b < 4; b++) {
                refusedLine(3, a, b, 1, 1);
            }
        }
    }

    private static void lineToNoNode() {
        for (int b : Due.outside(0, 3)) {
            for (int a = 0; a < 4; a++) {
                refusedLine(3, a, b, 1, 1);
            }
            refusedLine(3, b, b, 1, 1);
            refusedLine(0, b, -1, 1, 1);
        }
    }

    private static void lineToItself() {
        for (int n = 0; n < 4; n++) {
            refusedLine(0, n, n, 1, 1);
            refusedLine(4, n, n, 5, 1000);
            refusedLine(6, n, n, 1, 0);
        }
    }

    /** The pair 0, 2 is still free behind four lines. */
    private static void lineOfNoStrength() {
        for (int strength : Due.outside(1, 5)) {
            refusedLine(4, 0, 2, strength, 5);
        }
    }

    private static void lineOfNoLimit() {
        for (int limit : Due.outside(0, 1000)) {
            refusedLine(4, 0, 2, 2, limit);
        }
    }

    private static void lineWithinAllBounds() {
        for (int strength = 1; strength <= 5; strength++) {
            for (int limit : Due.inside(0, 1000)) {
                NodalAuction x = Due.motley(4, 6);
                Due.is("line(0, 2, " + strength + ", " + limit + ")", x.line(0, 2, strength, limit), 4);
                Due.is("lines()", x.lines(), 5);
                Due.is("line(1, 3, " + strength + ", " + limit + ")", x.line(1, 3, strength, limit), 5);
                Due.is("lines()", x.lines(), 6);
            }
        }
    }

    private static void lineThatIsThere() {
        int[][] pairs = {{0, 1}, {2, 1}, {2, 3}, {3, 0}, {0, 2}, {3, 1}};
        for (int lines = 1; lines <= 6; lines++) {
            for (int k = 0; k < lines; k++) {
                refusedLine(lines, pairs[k][0], pairs[k][1], 5, 1000);
            }
        }
    }

    private static void lineThatIsThereTheOtherWay() {
        int[][] pairs = {{0, 1}, {2, 1}, {2, 3}, {3, 0}, {0, 2}, {3, 1}};
        for (int lines = 1; lines <= 6; lines++) {
            for (int k = 0; k < lines; k++) {
                refusedLine(lines, pairs[k][1], pairs[k][0], 1, 0);
            }
        }
    }

    // Promise 3

    private static void limitOfNoLine() {
        for (int lines = 0; lines <= 6; lines++) {
            for (int k : Due.noNumber(lines)) {
                refusedLimit(lines, k, 5);
            }
        }
    }

    private static void limitBeyond() {
        for (int limit : Due.outside(0, 1000)) {
            refusedLimit(6, 0, limit);
            refusedLimit(6, 5, limit);
            refusedLimit(0, 0, limit);
        }
    }

    private static void limitWithin() {
        for (int limit : Due.inside(0, 1000)) {
            for (int k = 0; k < 3; k++) {
                NodalAuction x = Due.chain(1000);
                Due.is("limit(" + k + ", " + limit + ")", x.limit(k, limit), true);
                x.offer(0, 1, 1000);
                x.bid(3, 2, 1000);
                x.clear();
                Due.is("accepted(0) after limit(" + k + ", " + limit + ")", x.accepted(0), limit);
                Due.is("tight() after limit(" + k + ", " + limit + ")", x.tight(), limit == 1000 ? 7 : 1 << k);
            }
        }
    }

    private static void limitOfTheLastLine() {
        for (int lines = 1; lines <= 6; lines++) {
            NodalAuction x = Due.motley(lines, 0);
            Due.is("limit(" + (lines - 1) + ", 5) of " + lines, x.limit(lines - 1, 5), true);
            Due.is("limit(0, 5) of " + lines, x.limit(0, 5), true);
            Due.is("lines()", x.lines(), lines);
        }
    }

    private static void theSameLimit() {
        NodalAuction x = Due.cleared();
        Due.is("limit(2, 10)", x.limit(2, 10), true);
        Due.noResults("after the same limit", x);
        x.clear();
        Due.hasResults("cleared again", x);
        x.limit(2, 0);
        x.clear();
        Due.is("limit(2, 0) once more", x.limit(2, 0), true);
        Due.noResults("after the same limit of 0", x);
    }

    // Promise 4

    private static void cutOfNoLine() {
        for (int lines = 0; lines <= 6; lines++) {
            for (int k : Due.noNumber(lines)) {
                refusedCut(lines, k);
            }
        }
    }

    private static void cutOfEachLine() {
        for (int lines = 1; lines <= 6; lines++) {
            for (int k = 0; k < lines; k++) {
                NodalAuction x = Due.motley(lines, 2);
                Due.is("cut(" + k + ") of " + lines, x.cut(k), true);
                Due.is("lines()", x.lines(), lines - 1);
                Due.is("cut(" + (lines - 1) + ") of " + (lines - 1), x.cut(lines - 1), false);
            }
        }
    }

    private static void cutUntilNoneIsLeft() {
        NodalAuction x = Due.motley(6, 4);
        for (int left = 5; left >= 0; left--) {
            Due.is("cut(0)", x.cut(0), true);
            Due.is("lines()", x.lines(), left);
        }
        Due.is("cut(0) of none", x.cut(0), false);
        Due.is("clear() over no lines", x.clear(), Due.NONE);
        for (int k = 0; k < 6; k++) {
            Due.addLine(x, k);
        }
        Due.alike("all lines again", x, Due.motley(6, 4));
    }

    // Promises 5 and 6

    private static void stepAtNoNode(boolean isBid) {
        for (int node : Due.outside(0, 3)) {
            refusedStep(isBid, 5, node, 1, 1);
            refusedStep(isBid, 0, node, 0, 1000);
        }
    }

    private static void stepOfNoPrice(boolean isBid) {
        for (int price : Due.outside(0, 1000)) {
            refusedStep(isBid, 5, 0, price, 1);
            refusedStep(isBid, 0, 3, price, 1000);
        }
    }

    private static void stepOfNoQuantity(boolean isBid) {
        for (int quantity : Due.outside(1, 1000)) {
            refusedStep(isBid, 5, 0, 1, quantity);
            refusedStep(isBid, 0, 3, 1000, quantity);
        }
    }

    private static void stepWithinAllBounds(boolean isBid) {
        for (int node = 0; node < 4; node++) {
            for (int price : Due.inside(0, 1000)) {
                for (int quantity : Due.inside(1, 1000)) {
                    NodalAuction x = Due.motley(5, 5);
                    String call = "step(" + node + ", " + price + ", " + quantity + ")";
                    Due.is(call, Due.add(x, isBid, node, price, quantity), 5);
                    Due.is("steps() after " + call, x.steps(), 6);
                }
            }
        }
    }

    /** The partner at the same node takes or gives all that the step at the bound has. */
    private static void stepAtTheBoundsIsTaken(boolean isBid) {
        for (int node = 0; node < 4; node++) {
            for (int quantity : Due.inside(1, 1000)) {
                NodalAuction x = Due.chain(0);
                Due.add(x, isBid, node, isBid ? 1000 : 0, quantity);
                Due.add(x, !isBid, node, isBid ? 0 : 1000, 1000);
                Due.is("clear()", x.clear(), 2);
                Due.is("accepted(0) of " + quantity, x.accepted(0), quantity);
                Due.is("welfare() of " + quantity, x.welfare(), 1000L * quantity);
            }
        }
    }

    private static void theNinthStep(boolean isBid) {
        refusedStep(isBid, 8, 0, 1, 1);
        refusedStep(isBid, 8, 3, 1000, 1000);
        NodalAuction x = Due.motley(5, 7);
        Due.is("the eighth", Due.add(x, isBid, 0, 5, 5), 7);
        Due.is("the ninth", Due.add(x, isBid, 0, 5, 5), Due.NONE);
    }

    private static void roomAfterCancel(boolean isBid) {
        for (int k = 0; k < 8; k++) {
            NodalAuction x = Due.motley(5, 8);
            x.cancel(k);
            Due.is("the eighth after cancel(" + k + ")", Due.add(x, isBid, 1, 5, 5), 7);
            Due.is("the ninth after cancel(" + k + ")", Due.add(x, isBid, 1, 5, 5), Due.NONE);
            Due.is("steps()", x.steps(), 8);
        }
    }

    private static void bidsAndOffersTogether() {
        NodalAuction x = new NodalAuction();
        for (int k = 0; k < 8; k++) {
            Due.is("step " + k, Due.add(x, k % 3 == 0, 1, 5, 5), k);
        }
    }

    private static void bothSides(String words, Consumer<Boolean> test) {
        Due.sentence("Promise 5", words, () -> test.accept(true));
        Due.sentence("Promise 6", words, () -> test.accept(false));
    }

    // Promise 7

    private static void cancelOfNoStep() {
        for (int steps = 0; steps <= 8; steps++) {
            for (int k : Due.noNumber(steps)) {
                refusedCancel(steps, k);
            }
        }
    }

    private static void cancelOfEachStep() {
        for (int steps = 1; steps <= 8; steps++) {
            for (int k = 0; k < steps; k++) {
                NodalAuction x = Due.motley(5, steps);
                Due.is("cancel(" + k + ") of " + steps, x.cancel(k), true);
                Due.is("steps()", x.steps(), steps - 1);
                Due.is("cancel(" + (steps - 1) + ") of " + (steps - 1), x.cancel(steps - 1), false);
            }
        }
    }

    private static void cancelUntilNoneIsLeft() {
        NodalAuction x = Due.motley(5, 8);
        for (int left = 7; left >= 0; left--) {
            Due.is("cancel(0)", x.cancel(0), true);
            Due.is("steps()", x.steps(), left);
        }
        Due.is("cancel(0) of none", x.cancel(0), false);
        Due.is("clear() of no steps", x.clear(), 0);
        for (int k = 0; k < 8; k++) {
            Due.addStep(x, k);
        }
        Due.alike("all steps again", x, Due.motley(5, 8));
    }

    // Promise 8

    private static void clearAsItIsNow() {
        NodalAuction x = Due.cleared();
        x.limit(0, 4);
        Due.is("clear()", x.clear(), 2);
        Due.is("accepted(1) over a narrower line", x.accepted(1), 4);
        x.bid(0, 7, 100);
        Due.is("clear()", x.clear(), 2);
        Due.dueAmounts("a dearer bid", x, 1, 9, 0, 9);
        x.cancel(2);
        x.cut(0);
        x.line(0, 3, 1, 1);
        Due.is("clear()", x.clear(), 2);
        Due.is("accepted(1) over another line", x.accepted(1), 1);
    }

    private static void clearOfNone() {
        NodalAuction x = Due.chain(10);
        Due.is("clear() without steps", x.clear(), 0);
        Due.is("welfare() without steps", x.welfare(), 0);
        x.offer(0, 7, 3);
        x.bid(3, 6, 3);
        Due.is("clear() where no price meets another", x.clear(), 0);
        Due.is("welfare()", x.welfare(), 0);
        x = Due.chain(0);
        x.offer(0, 1, 3);
        x.bid(3, 6, 3);
        Due.is("clear() over limits of 0", x.clear(), 0);
        x.bid(0, 6, 3);
        Due.is("clear() with a bid beside the offer", x.clear(), 2);
    }

    private static void clearOfAll() {
        NodalAuction x = Due.chain(1000);
        for (int k = 0; k < 8; k++) {
            Due.add(x, k % 2 == 0, k / 2, k % 2 == 0 ? 9 : 1, 7);
        }
        Due.is("clear() where all are taken", x.clear(), 8);
    }

    /** Strengths 5 and 1 and a limit of 1 at node 0: what node 1 takes is a fifth. */
    private static void amountsBelowOne() {
        NodalAuction x = new NodalAuction();
        x.line(3, 0, 5, 1);
        x.line(3, 1, 1, 10);
        x.line(0, 1, 1, 0);
        x.line(0, 2, 1, 0);
        x.offer(3, 1, 9);
        x.bid(0, 3, 9);
        x.bid(1, 2, 9);
        Due.is("clear() with an amount of 1 / 5", x.clear(), 3);
        Due.dueAmounts("fifths", x, 5, 6, 5, 1);
    }

    private static void clearWhereNotConnected() {
        NodalAuction x = new NodalAuction();
        x.bid(0, 9, 5);
        x.offer(0, 1, 5);
        Due.is("clear() without lines", x.clear(), Due.NONE);
        Due.noResults("without lines", x);
        x.line(1, 2, 1, 9);
        x.line(2, 3, 1, 9);
        x.line(3, 1, 1, 9);
        Due.is("clear() with node 0 apart", x.clear(), Due.NONE);
        Due.noResults("node 0 apart", x);
        x.line(3, 0, 1, 0);
        Due.is("clear() with node 0 on a line of limit 0", x.clear(), 2);
        Due.is("welfare()", x.welfare(), 40);
    }

    private static void clearLeavesLinesAndSteps() {
        NodalAuction x = Due.motley(2, 8);
        Due.is("clear()", x.clear(), Due.NONE);
        Due.is("lines()", x.lines(), 2);
        Due.is("steps()", x.steps(), 8);
        for (int k = 2; k < 6; k++) {
            Due.addLine(x, k);
        }
        Due.alike("with the other lines", x, Due.motley(6, 8));
    }

    /** One refused call of each kind after the other, over results that stay. */
    private static void manyRefusedCalls() {
        NodalAuction x = Due.motley(5, 8);
        x.clear();
        Map<String, Long> before = Due.picture(x);
        Due.is("line(0, 0, 1, 1)", x.line(0, 0, 1, 1), Due.NONE);
        Due.is("line(1, 0, 1, 1)", x.line(1, 0, 1, 1), Due.NONE);
        Due.is("line(1, 3, 6, 1)", x.line(1, 3, 6, 1), Due.NONE);
        Due.is("limit(5, 1)", x.limit(5, 1), false);
        Due.is("limit(0, 1001)", x.limit(0, 1001), false);
        Due.is("cut(5)", x.cut(5), false);
        Due.is("bid(0, 1, 1)", x.bid(0, 1, 1), Due.NONE);
        Due.is("offer(0, 1, 1)", x.offer(0, 1, 1), Due.NONE);
        Due.is("cancel(8)", x.cancel(8), false);
        Due.same("after nine refused calls", Due.picture(x), before);
        x.clear();
        Due.same("cleared again", Due.picture(x), before);
    }

    public static void main(String[] args) {
        Due.sentence("Promise 1", "A grid without lines, no steps, no results", ChangesBoundariesTest::aNewObject);
        Due.sentence("Promise 1", "A new object: beside another", ChangesBoundariesTest::aNewObjectBesideAnother);
        Due.sentence("Promise 2", "NONE when a .. is not 0 .. 3", ChangesBoundariesTest::lineFromNoNode);
        Due.sentence("Promise 2", "NONE when .. b is not 0 .. 3", ChangesBoundariesTest::lineToNoNode);
        Due.sentence("Promise 2", "NONE when .. a is b", ChangesBoundariesTest::lineToItself);
        Due.sentence("Promise 2", "NONE when .. strength is not 1 .. 5", ChangesBoundariesTest::lineOfNoStrength);
        Due.sentence("Promise 2", "NONE when .. limit is not 0 .. 1000", ChangesBoundariesTest::lineOfNoLimit);
        Due.sentence("Promise 2", "Adds a line with first node a and second node b: its number", ChangesBoundariesTest::lineWithinAllBounds);
        Due.sentence("Promise 2", "NONE when .. a line joins the two already", ChangesBoundariesTest::lineThatIsThere);
        Due.sentence("Promise 2", "in whichever direction", ChangesBoundariesTest::lineThatIsThereTheOtherWay);
        Due.sentence("Promise 3", "false when there is no line k", ChangesBoundariesTest::limitOfNoLine);
        Due.sentence("Promise 3", "false when .. the limit is not 0 .. 1000", ChangesBoundariesTest::limitBeyond);
        Due.sentence("Promise 3", "Line k gets another limit", ChangesBoundariesTest::limitWithin);
        Due.sentence("Promise 3", "Line k: the first and the last", ChangesBoundariesTest::limitOfTheLastLine);
        Due.sentence("Promise 3", "or the same; results end", ChangesBoundariesTest::theSameLimit);
        Due.sentence("Promise 4", "false when there is no line k", ChangesBoundariesTest::cutOfNoLine);
        Due.sentence("Promise 4", "Takes line k away: true", ChangesBoundariesTest::cutOfEachLine);
        Due.sentence("Promise 4", "Takes line k away: until none is left", ChangesBoundariesTest::cutUntilNoneIsLeft);
        bothSides("NONE when node is not 0 .. 3", ChangesBoundariesTest::stepAtNoNode);
        bothSides("NONE when .. price is not 0 .. 1000", ChangesBoundariesTest::stepOfNoPrice);
        bothSides("NONE when .. quantity is not 1 .. 1000", ChangesBoundariesTest::stepOfNoQuantity);
        bothSides("its number among the steps", ChangesBoundariesTest::stepWithinAllBounds);
        bothSides("price .. 0 .. 1000, quantity .. 1 .. 1000: they count as they are", ChangesBoundariesTest::stepAtTheBoundsIsTaken);
        bothSides("NONE when .. there are 8 steps", ChangesBoundariesTest::theNinthStep);
        bothSides("there are 8 steps: room again after a cancel", ChangesBoundariesTest::roomAfterCancel);
        Due.sentence("Promise 5", "bids and offers together", ChangesBoundariesTest::bidsAndOffersTogether);
        Due.sentence("Promise 7", "false when there is no step k", ChangesBoundariesTest::cancelOfNoStep);
        Due.sentence("Promise 7", "Takes step k away: true", ChangesBoundariesTest::cancelOfEachStep);
        Due.sentence("Promise 7", "Takes step k away: until none is left", ChangesBoundariesTest::cancelUntilNoneIsLeft);
        Due.sentence("Promise 8", "Clears the market as it is now", ChangesBoundariesTest::clearAsItIsNow);
        Due.sentence("Promise 8", "the number of steps with an amount above 0: none", ChangesBoundariesTest::clearOfNone);
        Due.sentence("Promise 8", "the number of steps with an amount above 0: all", ChangesBoundariesTest::clearOfAll);
        Due.sentence("Promise 8", "an amount above 0: below 1", ChangesBoundariesTest::amountsBelowOne);
        Due.sentence("Promise 8", "NONE, and there are no results, when the grid is not connected", ChangesBoundariesTest::clearWhereNotConnected);
        Due.sentence("Terms", "A call that is refused (it answers NONE or false) changes nothing", ChangesBoundariesTest::manyRefusedCalls);
        Due.sentence("Terms", "A call that is refused (it answers NONE or false) changes nothing: clear() too, but for the results", ChangesBoundariesTest::clearLeavesLinesAndSteps);
        Due.end();
    }
}
