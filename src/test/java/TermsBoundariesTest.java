import java.util.Map;

/** The sentences of 'What it is' and of 'Terms' that name a boundary, each with a test of its own. */
public final class TermsBoundariesTest {
    private static final String WHAT = "What it is";
    private static final String TERMS = "Terms";

    // What it is

    /** An object near the end of its calls answers like one that has just come to the same state. */
    private static void fiveHundredAndTwelveCalls() {
        NodalAuction x = Due.motley(6, 8);
        int calls = 14;
        for (; calls < 494; calls += 8) {
            x.cancel(7);
            Due.addStep(x, 7);
            x.cut(5);
            Due.addLine(x, 5);
            x.bid(4, 0, 0);
            x.clear();
            x.check(calls, 3, 5, 7);
            x.extraTop(calls % 4);
        }
        NodalAuction y = Due.motley(6, 8);
        Due.is("clear(), call 495", x.clear(), y.clear());
        for (int k = 0; k < 8; k++) {
            Due.is("accepted(" + k + "), call " + (496 + k), x.accepted(k), y.accepted(k));
        }
        for (int k = 0; k < 6; k++) {
            Due.is("flow(" + k + "), call " + (504 + k), x.flow(k), y.flow(k));
        }
        Due.is("extraTop(1), call 510", x.extraTop(1), y.extraTop(1));
        Due.is("check(10, 30, 20, 15), call 511", x.check(10, 30, 20, 15), y.check(10, 30, 20, 15));
        Due.is("welfare(), call 512", x.welfare(), y.welfare());
    }

    private static void restore(NodalAuction x, int k) {
        if (k < 6) {
            Due.addLine(x, k);
        } else {
            Due.addStep(x, k - 6);
        }
    }

    private static void resultsForAllCalls() {
        NodalAuction x = Due.cleared();
        for (int calls = 6; calls < 512; calls++) {
            Due.is("welfare(), call " + (calls + 1), x.welfare(), 20);
        }
        x = Due.motley(6, 8);
        x.clear();
        long top = x.extraTop(2);
        for (int calls = 16; calls < 512; calls++) {
            Due.is("extraTop(2), call " + (calls + 1), x.extraTop(2), top);
        }
        x = Due.cleared();
        for (int calls = 6; calls < 512; calls++) {
            Due.is("check(3, 3, 3, 7), call " + (calls + 1), x.check(3, 3, 3, 7), 7);
        }
    }

    // GRID

    private static void nodes() {
        for (int n = 0; n < 4; n++) {
            NodalAuction x = Due.web(1000);
            Due.is("bid(" + n + ", ..)", x.bid(n, 9, 5), 0);
            Due.is("offer(" + (3 - n) + ", ..)", x.offer(3 - n, 1, 5), 1);
            Due.is("clear()", x.clear(), 2);
            for (int m = 0; m < 4; m++) {
                long intake = m == n ? 5 : m == 3 - n ? -5 : 0;
                Due.is("price 1 of node " + m + " alone", rentOfNode(x, m, 1), intake * x.scale());
            }
        }
    }

    private static long rentOfNode(NodalAuction x, int n, int price) {
        return x.rent(n == 0 ? price : 0, n == 1 ? price : 0, n == 2 ? price : 0, n == 3 ? price : 0);
    }

    private static void differentNodes() {
        for (int n = 0; n < 4; n++) {
            Due.is("line from node " + n + " to itself", new NodalAuction().line(n, n, 1, 1), Due.NONE);
        }
        for (int a = 0; a < 4; a++) {
            for (int b = 0; b < 4; b++) {
                if (a != b) {
                    Due.is("line(" + a + ", " + b + ", 1, 1)", new NodalAuction().line(a, b, 1, 1), 0);
                }
            }
        }
    }

    /** A tree in which only line 0 joins a and b: what goes from a to b goes over it. */
    private static NodalAuction overLineZero(int a, int b, boolean turned) {
        NodalAuction x = new NodalAuction();
        x.line(turned ? b : a, turned ? a : b, 2, 10);
        for (int n = 0; n < 4; n++) {
            if (n != a && n != b) {
                x.line(a, n, 1, 10);
            }
        }
        x.offer(a, 2, 3);
        x.bid(b, 6, 4);
        x.clear();
        return x;
    }

    private static void firstAndSecondNode() {
        for (int a = 0; a < 4; a++) {
            for (int b = 0; b < 4; b++) {
                if (a != b) {
                    Due.dueFlows("from " + a + " to " + b, overLineZero(a, b, false), 3, 0, 0);
                    Due.dueFlows("from " + a + " to " + b + ", line turned", overLineZero(a, b, true), -3, 0, 0);
                }
            }
        }
    }

    /** From node 0 to node 2 by line 0 and by way of node 1, whose two lines have strength 5. */
    private static void strengths() {
        long[] scales = {7, 9, 11, 13, 3};
        long[] flows = {2, 4, 6, 8, 2};
        for (int strength = 1; strength <= 5; strength++) {
            NodalAuction x = new NodalAuction();
            Due.is("line(0, 2, " + strength + ", 9)", x.line(0, 2, strength, 9), 0);
            x.line(0, 1, 5, 9);
            x.line(1, 2, 5, 9);
            x.line(3, 1, 5, 9);
            x.offer(0, 1, 1);
            x.bid(2, 2, 1);
            x.clear();
            long scale = scales[strength - 1];
            long direct = flows[strength - 1];
            Due.is("scale() with strength " + strength, x.scale(), scale);
            Due.dueFlows("strength " + strength, x, direct, scale - direct, scale - direct, 0);
        }
        Due.is("strength 0", new NodalAuction().line(0, 2, 0, 9), Due.NONE);
        Due.is("strength 6", new NodalAuction().line(0, 2, 6, 9), Due.NONE);
    }

    private static void limits() {
        for (int limit : new int[] {0, 1, 2, 999, 1000}) {
            for (int from = 0; from <= 3; from += 3) {
                NodalAuction x = Due.chain(1000);
                x.limit(1, limit);
                x.offer(from, 1, 1000);
                x.offer(from, 1, 1000);
                x.bid(3 - from, 2, 1000);
                x.bid(3 - from, 2, 1000);
                x.clear();
                Due.is("amount over a limit of " + limit, x.accepted(2), limit);
                Due.is("flow over a limit of " + limit, x.flow(1), from == 0 ? limit : -limit);
                Due.is("tight() at a limit of " + limit, x.tight(), limit == 1000 ? 7 : 2);
            }
        }
        Due.is("limit -1", new NodalAuction().line(0, 1, 1, -1), Due.NONE);
        Due.is("limit 1001", new NodalAuction().line(0, 1, 1, 1001), Due.NONE);
    }

    private static void oneLineBetweenTwoNodes() {
        for (int a = 0; a < 4; a++) {
            for (int b = 0; b < 4; b++) {
                NodalAuction x = Due.web(3);
                Due.is("a seventh, line(" + a + ", " + b + ", 1, 3)", x.line(a, b, 1, 3), Due.NONE);
                Due.is("lines()", x.lines(), 6);
                NodalAuction y = new NodalAuction();
                y.line(a, b, 1, 3);
                Due.is("the same once more", y.line(a, b, 5, 1000), Due.NONE);
                Due.is("the other way round", y.line(b, a, 5, 1000), Due.NONE);
            }
        }
    }

    private static void aLineInThePlaceOfOneCut() {
        int[][] pairs = {{0, 1}, {0, 2}, {0, 3}, {1, 2}, {1, 3}, {2, 3}};
        for (int k = 0; k < 6; k++) {
            for (int other = 0; other < 6; other++) {
                NodalAuction x = Due.web(3);
                x.cut(k);
                long want = other == k ? 5 : Due.NONE;
                Due.is("after cut(" + k + "), pair " + other, x.line(pairs[other][1], pairs[other][0], 2, 7), want);
            }
        }
    }

    private static void numbersOfLines() {
        NodalAuction x = new NodalAuction();
        int[][] pairs = {{2, 3}, {1, 0}, {3, 1}, {0, 2}, {0, 3}, {2, 1}};
        for (int k = 0; k < 6; k++) {
            Due.is("line " + k, x.line(pairs[k][0], pairs[k][1], 1, 1), k);
        }
    }

    private static void numbersBehindALineTakenAway() {
        for (int gone = 0; gone < 6; gone++) {
            NodalAuction x = Due.motley(6, 8);
            x.cut(gone);
            NodalAuction y = new NodalAuction();
            for (int k = 0; k < 14; k++) {
                if (k != gone) {
                    restore(y, k);
                }
            }
            Due.alike("after cut(" + gone + ")", x, y);
            Due.addLine(x, gone);
            Due.addLine(y, gone);
            Due.alike("after cut(" + gone + ") and the line again, now the last", x, y);
        }
        NodalAuction x = Due.chain(9);
        x.cut(1);
        Due.is("limit(1, 4), once line 2", x.limit(1, 4), true);
        Due.is("limit(2, 4)", x.limit(2, 4), false);
        x.line(1, 2, 1, 7);
        x.offer(0, 1, 20);
        x.bid(3, 2, 20);
        x.clear();
        Due.dueFlows("0 - 1, 2 - 3, 1 - 2", x, 4, 4, 4);
        Due.is("tight(): only what was line 2", x.tight(), 2);
    }

    // CONNECTED

    private static boolean reachesAll(int chosen, int[][] pairs) {
        int seen = 1;
        for (int round = 0; round < 4; round++) {
            for (int k = 0; k < 6; k++) {
                int both = 1 << pairs[k][0] | 1 << pairs[k][1];
                if ((chosen >> k & 1) != 0 && (seen & both) != 0) {
                    seen |= both;
                }
            }
        }
        return seen == 15;
    }

    /** Every choice out of the six lines; whether a line is narrow or turned makes no difference. */
    private static void connected() {
        int[][] pairs = {{0, 1}, {2, 0}, {0, 3}, {2, 1}, {1, 3}, {3, 2}};
        for (int chosen = 0; chosen < 64; chosen++) {
            for (int limit = 0; limit <= 1000; limit += 1000) {
                NodalAuction x = new NodalAuction();
                for (int k = 0; k < 6; k++) {
                    if ((chosen >> k & 1) != 0) {
                        x.line(pairs[k][0], pairs[k][1], 1 + k % 5, limit);
                    }
                }
                boolean due = reachesAll(chosen, pairs);
                Due.is("clear() over lines " + chosen + ", limits " + limit, x.clear(), due ? 0 : Due.NONE);
                Due.is("scale() over lines " + chosen + ", limits " + limit, x.scale(), due ? 1 : 0);
            }
        }
    }

    // STEPS

    private static void bidsTakeOutAndOffersPutIn() {
        NodalAuction x = Due.chain(10);
        x.bid(1, 7, 4);
        x.offer(2, 3, 6);
        x.clear();
        Due.is("intake of the bid's node", x.rent(0, 1, 0, 0), 4);
        Due.is("intake of the offer's node", x.rent(0, 0, 1, 0), -4);
        Due.is("flow(1), from the offer to the bid", x.flow(1), -4);
    }

    /** Whether a bid and an offer at these prices come to a deal. */
    private static void dueDeal(int bid, int offer, boolean deal) {
        NodalAuction x = Due.chain(10);
        Due.is("bid(0, " + bid + ", 4)", x.bid(0, bid, 4), 0);
        Due.is("offer(3, " + offer + ", 4)", x.offer(3, offer, 4), 1);
        Due.is("clear() of bid " + bid + ", offer " + offer, x.clear(), deal ? 2 : 0);
        Due.is("welfare() of bid " + bid + ", offer " + offer, x.welfare(), deal ? 4L * (bid - offer) : 0);
    }

    private static void prices() {
        dueDeal(0, 0, true);
        dueDeal(0, 1, false);
        dueDeal(1, 0, true);
        dueDeal(1000, 1000, true);
        dueDeal(999, 1000, false);
        dueDeal(1000, 999, true);
        dueDeal(1000, 0, true);
        dueDeal(0, 1000, false);
    }

    private static void quantities() {
        for (int quantity : Due.inside(1, 1000)) {
            for (int wider = 0; wider < 2; wider++) {
                NodalAuction x = Due.chain(1000);
                x.bid(0, 9, wider == 0 ? quantity : 1000);
                x.offer(3, 1, wider == 0 ? 1000 : quantity);
                x.clear();
                Due.dueAmounts("quantity " + quantity, x, 1, quantity, quantity);
            }
        }
    }

    private static void eightSteps() {
        for (int bids = 0; bids <= 8; bids++) {
            NodalAuction x = new NodalAuction();
            for (int k = 0; k < 8; k++) {
                Due.is("step " + k + " with " + bids + " bids", Due.add(x, k < bids, k % 4, k, 1 + k), k);
            }
            Due.is("a ninth, bid", x.bid(0, 1, 1), Due.NONE);
            Due.is("a ninth, offer", x.offer(0, 1, 1), Due.NONE);
            Due.is("steps()", x.steps(), 8);
        }
    }

    private static void numbersBehindAStepTakenAway() {
        for (int gone = 0; gone < 8; gone++) {
            NodalAuction x = Due.motley(6, 8);
            x.cancel(gone);
            NodalAuction y = new NodalAuction();
            for (int k = 0; k < 14; k++) {
                if (k != 6 + gone) {
                    restore(y, k);
                }
            }
            Due.alike("after cancel(" + gone + ")", x, y);
            Due.addStep(x, gone);
            Due.addStep(y, gone);
            Due.alike("after cancel(" + gone + ") and the step again, now the last", x, y);
        }
    }

    // All that follows

    /** Strengths 5, 4, 5, 5, 4, 4 part a unit from node 0 to node 3 into 1449ths. */
    private static void exact() {
        NodalAuction x = new NodalAuction();
        x.line(0, 1, 5, 1000);
        x.line(0, 2, 4, 1000);
        x.line(0, 3, 5, 1000);
        x.line(1, 2, 5, 1000);
        x.line(1, 3, 4, 1000);
        x.line(2, 3, 4, 1000);
        x.offer(0, 0, 1);
        x.bid(3, 1, 1);
        x.clear();
        Due.dueAmounts("1 unit", x, 1449, 1449, 1449);
        Due.dueFlows("1 unit", x, 360, 304, 785, 20, 340, 324);
        Due.is("welfare()", x.welfare(), 1449);
    }

    private static void amountsFromZero() {
        NodalAuction x = Due.chain(10);
        x.offer(0, 1000, 9);
        x.bid(0, 0, 9);
        x.offer(3, 1000, 9);
        x.bid(3, 0, 9);
        Due.is("clear() where only less than nothing would be worth it", x.clear(), 0);
        Due.dueAmounts("no deal", x, 1, 0, 0, 0, 0);
        Due.is("welfare()", x.welfare(), 0);
    }

    private static void amountsToTheQuantity() {
        NodalAuction x = Due.chain(1000);
        x.bid(0, 1000, 1);
        x.offer(0, 0, 1000);
        x.bid(3, 999, 2);
        x.offer(3, 1, 1);
        x.clear();
        Due.dueAmounts("dear bids", x, 1, 1, 3, 2, 0);
        x.cancel(1);
        x.clear();
        Due.dueAmounts("one offer of 1", x, 1, 1, 0, 1);
    }

    private static void intake() {
        NodalAuction x = Due.chain(10);
        x.bid(1, 9, 3);
        x.bid(1, 8, 4);
        x.offer(1, 2, 5);
        x.offer(1, 1, 1);
        x.offer(2, 5, 10);
        x.clear();
        Due.dueAmounts("two bids, two offers and one beside", x, 1, 3, 4, 5, 1, 1);
        Due.is("intake of node 1", x.rent(0, 1, 0, 0), 1);
        Due.is("intake of node 2", x.rent(0, 0, 1, 0), -1);
    }

    /** What runs from node 3 to node 0 is held by the same limits as what runs from node 0 to node 3. */
    private static void limitsBothWays() {
        for (int from = 0; from <= 3; from += 3) {
            for (int quantity = 4; quantity <= 6; quantity++) {
                NodalAuction x = Due.chain(10);
                x.limit(1, 5);
                x.offer(from, 1, quantity);
                x.bid(3 - from, 2, quantity);
                x.clear();
                Due.is("amount of " + quantity + " from node " + from, x.accepted(0), Math.min(quantity, 5));
            }
        }
    }

    /** A line with limit 0 inside a ring keeps its two nodes at one height; no line at all does not. */
    private static void limitZeroInARing() {
        NodalAuction x = new NodalAuction();
        x.line(0, 1, 1, 0);
        x.line(1, 2, 1, 100);
        x.line(0, 2, 1, 100);
        x.line(0, 3, 1, 100);
        x.offer(0, 1, 6);
        x.bid(2, 9, 6);
        Due.is("clear() with an offer at node 0 alone", x.clear(), 0);
        Due.is("tight()", x.tight(), 1);
        x.offer(1, 3, 2);
        Due.is("clear() with an offer at node 1 too", x.clear(), 3);
        Due.dueAmounts("as much from node 1 as from node 0", x, 1, 2, 4, 2);
        x.cut(0);
        x.clear();
        Due.dueAmounts("without the line", x, 1, 6, 6, 0);
    }

    private static void intakesBalance() {
        NodalAuction x = Due.web(1000);
        x.bid(0, 1000, 5);
        x.bid(3, 1000, 5);
        Due.is("clear() of bids alone", x.clear(), 0);
        Due.dueAmounts("bids alone", x, 1, 0, 0);
        x = Due.web(1000);
        x.offer(0, 0, 5);
        x.offer(3, 0, 5);
        Due.is("clear() of offers alone", x.clear(), 0);
        Due.dueAmounts("offers alone", x, 1, 0, 0);
    }

    private static void flowsBelowZero() {
        NodalAuction x = Due.triangle(100);
        x.offer(2, 1, 3);
        x.bid(0, 2, 3);
        x.clear();
        Due.dueFlows("3 units from node 2 to node 0", x, -1, -1, -2, 0);
    }

    // The CLEARED dispatch

    private static void greatestWelfareFirst() {
        NodalAuction x = Due.chain(10);
        x.offer(0, 5, 4);
        x.offer(0, 4, 4);
        x.bid(3, 9, 4);
        x.clear();
        Due.dueAmounts("a cheaper offer behind a dearer", x, 1, 0, 4, 4);
        x = Due.chain(10);
        x.bid(0, 8, 4);
        x.bid(3, 9, 4);
        x.offer(1, 5, 5);
        x.clear();
        Due.dueAmounts("a dearer bid behind a cheaper", x, 1, 1, 4, 5);
    }

    private static void stepZeroNext() {
        NodalAuction x = Due.chain(10);
        x.offer(3, 5, 4);
        x.offer(0, 5, 4);
        x.bid(1, 9, 5);
        x.clear();
        Due.dueAmounts("two offers alike", x, 1, 4, 1, 5);
        x = Due.chain(10);
        x.bid(0, 5, 4);
        x.offer(3, 5, 3);
        Due.is("clear() where nothing is gained", x.clear(), 2);
        Due.dueAmounts("a deal without a gain", x, 1, 3, 3);
        Due.is("welfare()", x.welfare(), 0);
    }

    private static void stepOneNext() {
        NodalAuction x = Due.chain(10);
        x.offer(0, 5, 2);
        x.offer(1, 5, 2);
        x.offer(2, 5, 2);
        x.bid(3, 9, 3);
        x.clear();
        Due.dueAmounts("three offers alike", x, 1, 2, 1, 0, 3);
        x = Due.chain(10);
        x.bid(3, 9, 9);
        x.offer(2, 5, 9);
        x.limit(2, 3);
        x.offer(3, 5, 2);
        x.offer(3, 5, 9);
        x.clear();
        Due.dueAmounts("the first of them, but for its full line", x, 1, 9, 3, 2, 4);
    }

    private static void andSoOnToTheLast() {
        for (int taken = 1; taken <= 7; taken++) {
            for (int place = 0; place < 8; place++) {
                NodalAuction x = Due.chain(10);
                for (int k = 0; k < 8; k++) {
                    Due.add(x, k == place, k % 4, 5, k == place ? taken : 1);
                }
                x.clear();
                int left = taken;
                for (int k = 0; k < 8; k++) {
                    int want = k == place ? taken : left > 0 ? 1 : 0;
                    left -= k == place ? 0 : want;
                    Due.is("accepted(" + k + "), bid " + place + " of " + taken, x.accepted(k), want);
                }
            }
        }
    }

    /** A unit to node 2 burdens line 2 with 2 / 3, one to node 1 with 1 / 3: the first step counts, not the sum. */
    private static void firstStepBeforeTheSum() {
        NodalAuction x = Due.triangle(2);
        x.bid(2, 5, 9);
        x.bid(1, 5, 9);
        x.offer(0, 5, 9);
        x.clear();
        Due.dueAmounts("the bid at node 2 first", x, 1, 3, 0, 3);
        x.cancel(0);
        x.bid(2, 5, 9);
        x.clear();
        Due.dueAmounts("the bid at node 1 first", x, 1, 6, 6, 0);
    }

    /** With a limit of 1 the same choice is one of fractions. */
    private static void tiesOfFractions() {
        NodalAuction x = Due.triangle(1);
        x.bid(1, 5, 1);
        x.bid(2, 5, 9);
        x.offer(0, 5, 9);
        x.clear();
        Due.dueAmounts("what the bid at node 1 leaves", x, 1, 1, 1, 2);
        x.cancel(0);
        x.bid(1, 5, 1);
        x.clear();
        Due.dueAmounts("the bid at node 2 first", x, 2, 3, 3, 0);
    }

    // RESULTS

    private static void resultsBegin() {
        NodalAuction x = new NodalAuction();
        Due.noResults("a new object", x);
        x.line(0, 1, 1, 10);
        x.line(1, 2, 1, 10);
        x.clear();
        Due.noResults("a refused clear()", x);
        x.line(2, 3, 1, 10);
        x.offer(0, 2, 9);
        x.bid(3, 6, 5);
        Due.noResults("before clear()", x);
        x.clear();
        Due.hasResults("after clear()", x);
        x.clear();
        Due.hasResults("after clear() once more", x);
    }

    private static void everyAnswerLeavesTheResults() {
        NodalAuction x = Due.motley(6, 8);
        x.clear();
        Map<String, Long> first = Due.picture(x);
        Due.same("asked again", Due.picture(x), first);
        Due.is("clear() again", x.clear(), x.clear());
        Due.same("cleared again", Due.picture(x), first);
    }

    private static void clearWithoutConnectionEndsThem() {
        NodalAuction x = Due.cleared();
        x.cut(1);
        Due.is("clear()", x.clear(), Due.NONE);
        Due.noResults("after clear()", x);
        Due.is("lines()", x.lines(), 2);
        Due.is("steps()", x.steps(), 2);
        x.line(1, 2, 1, 10);
        Due.noResults("connected again, not yet cleared", x);
        x.clear();
        Due.is("welfare()", x.welfare(), 20);
    }

    private static void eachChangeEndsThem() {
        NodalAuction x = Due.cleared();
        x.line(0, 2, 1, 1000);
        Due.noResults("after line", x);
        x = Due.cleared();
        x.limit(0, 9);
        Due.noResults("after limit", x);
        x = Due.cleared();
        x.cut(2);
        Due.noResults("after cut", x);
        x = Due.cleared();
        x.bid(2, 3, 1);
        Due.noResults("after bid", x);
        x = Due.cleared();
        x.offer(2, 1, 1);
        Due.noResults("after offer", x);
        x = Due.cleared();
        x.cancel(1);
        Due.noResults("after cancel", x);
    }

    private static void evenOneThatChangesNoNumber() {
        for (int k = 0; k < 3; k++) {
            NodalAuction x = Due.cleared();
            x.limit(k, 10);
            Due.noResults("after the same limit of line " + k, x);
        }
        NodalAuction x = Due.cleared();
        x.bid(0, 0, 1);
        Due.noResults("after a bid that takes nothing", x);
        x.clear();
        x.cancel(2);
        Due.noResults("after cancel of a bid that took nothing", x);
        x.clear();
        x.offer(0, 1000, 1);
        Due.noResults("after an offer that gives nothing", x);
        x.clear();
        x.cancel(2);
        Due.noResults("after cancel of an offer that gave nothing", x);
        x = Due.chain(0);
        x.clear();
        x.line(0, 3, 1, 0);
        Due.noResults("after a line that carries nothing", x);
        x.clear();
        x.cut(3);
        Due.noResults("after cut of a line that carried nothing", x);
    }

    private static void whatIsUndoneDoesNotBringThemBack() {
        NodalAuction x = Due.cleared();
        x.limit(1, 3);
        x.limit(1, 10);
        Due.noResults("limit and back", x);
        x = Due.cleared();
        x.bid(1, 9, 9);
        x.cancel(2);
        Due.noResults("bid and cancel", x);
        x = Due.cleared();
        x.line(0, 3, 1, 9);
        x.cut(3);
        Due.noResults("line and cut", x);
        x.clear();
        Due.hasResults("cleared again", x);
    }

    public static void main(String[] args) {
        Due.sentence(WHAT, "An object is used for at most 512 calls after it has been made", TermsBoundariesTest::fiveHundredAndTwelveCalls);
        Due.sentence(WHAT, "at most 512 calls: each of them may be a dear one", TermsBoundariesTest::resultsForAllCalls);
        Due.sentence(TERMS, "nodes 0, 1, 2, 3", TermsBoundariesTest::nodes);
        Due.sentence(TERMS, "A LINE joins two different nodes", TermsBoundariesTest::differentNodes);
        Due.sentence(TERMS, "it has a first node and a second node", TermsBoundariesTest::firstAndSecondNode);
        Due.sentence(TERMS, "a strength 1 .. 5", TermsBoundariesTest::strengths);
        Due.sentence(TERMS, "a limit 0 .. 1000", TermsBoundariesTest::limits);
        Due.sentence(TERMS, "Between two nodes there is at most one line", TermsBoundariesTest::oneLineBetweenTwoNodes);
        Due.sentence(TERMS, "at most one line: room again after a cut", TermsBoundariesTest::aLineInThePlaceOfOneCut);
        Due.sentence(TERMS, "Lines bear the numbers 0, 1, .. in the order in which they were added", TermsBoundariesTest::numbersOfLines);
        Due.sentence(TERMS, "when one is taken away, those behind it get numbers one less", TermsBoundariesTest::numbersBehindALineTakenAway);
        Due.sentence(TERMS, "The grid is CONNECTED when over its lines one comes from node 0 to every other node", TermsBoundariesTest::connected);
        Due.sentence(TERMS, "a BID (power is taken out at its node) or an OFFER (power is put in at its node)", TermsBoundariesTest::bidsTakeOutAndOffersPutIn);
        Due.sentence(TERMS, "a price 0 .. 1000", TermsBoundariesTest::prices);
        Due.sentence(TERMS, "a quantity 1 .. 1000", TermsBoundariesTest::quantities);
        Due.sentence(TERMS, "There are at most 8 steps", TermsBoundariesTest::eightSteps);
        Due.sentence(TERMS, "numbered like the lines", TermsBoundariesTest::numbersBehindAStepTakenAway);
        Due.sentence(TERMS, "All that follows is exact, over fractions of whole numbers", TermsBoundariesTest::exact);
        Due.sentence(TERMS, "an amount from 0 ..", TermsBoundariesTest::amountsFromZero);
        Due.sentence(TERMS, ".. to its quantity", TermsBoundariesTest::amountsToTheQuantity);
        Due.sentence(TERMS, "The INTAKE of a node is the sum of the amounts of the bids at it less the sum of the amounts of the offers at it", TermsBoundariesTest::intake);
        Due.sentence(TERMS, "no flow is above its line's limit or below minus that limit", TermsBoundariesTest::limitsBothWays);
        Due.sentence(TERMS, "strength * (h of the first node - h of the second node) as the FLOW: a limit of 0", TermsBoundariesTest::limitZeroInARing);
        Due.sentence(TERMS, "the sum of the flows into n less the sum of the flows out of n is wn", TermsBoundariesTest::intakesBalance);
        Due.sentence(TERMS, "below 0 it runs the other way", TermsBoundariesTest::flowsBelowZero);
        Due.sentence(TERMS, "of all feasible dispatches those with the greatest welfare", TermsBoundariesTest::greatestWelfareFirst);
        Due.sentence(TERMS, "of these those in which the amount of step 0 is greatest", TermsBoundariesTest::stepZeroNext);
        Due.sentence(TERMS, "of these those in which the amount of step 1 is greatest", TermsBoundariesTest::stepOneNext);
        Due.sentence(TERMS, "and so on to the last step", TermsBoundariesTest::andSoOnToTheLast);
        Due.sentence(TERMS, "step 0, then step 1: not their sum", TermsBoundariesTest::firstStepBeforeTheSum);
        Due.sentence(TERMS, "One is left: where the choice is one of fractions", TermsBoundariesTest::tiesOfFractions);
        Due.sentence(TERMS, "RESULTS are there from a call of clear() that does not answer NONE", TermsBoundariesTest::resultsBegin);
        Due.sentence(TERMS, "up to ..: no other call ends them", TermsBoundariesTest::everyAnswerLeavesTheResults);
        Due.sentence(TERMS, "up to the next call of clear() that answers NONE", TermsBoundariesTest::clearWithoutConnectionEndsThem);
        Due.sentence(TERMS, "or the next call of line, limit, cut, bid, offer or cancel that is not refused", TermsBoundariesTest::eachChangeEndsThem);
        Due.sentence(TERMS, "even one that changes no number", TermsBoundariesTest::evenOneThatChangesNoNumber);
        Due.sentence(TERMS, "RESULTS are there from a call of clear(): not from a change that is undone", TermsBoundariesTest::whatIsUndoneDoesNotBringThemBack);
        Due.end();
    }
}
