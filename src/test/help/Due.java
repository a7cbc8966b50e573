import java.util.Arrays;
import java.util.LinkedHashMap;
import java.util.Map;
import java.util.stream.IntStream;

/** Runs tests, each of one sentence of the document, and tells the answers that are not as due. */
final class Due {
    static final long NONE = -2147483648L;
    private static String sentence = "";
    private static int sentences = 0;
    private static int answers = 0;
    private static int wrong = 0;

    private Due() { }

    static void sentence(String where, String words, Runnable calls) {
        sentence = where + ", \"" + words + "\"";
        sentences++;
        int before = answers;
        try {
            calls.run();
        } catch (RuntimeException | StackOverflowError e) {
            tell("a call", e.toString(), "an answer");
        }
        if (answers == before) {
            tell("the test", "nothing", "at least one answer");
        }
    }

    static void is(String call, long got, long want) {
        answers++;
        if (got != want) {
            tell(call, Long.toString(got), Long.toString(want));
        }
    }

    static void is(String call, boolean got, boolean want) {
        answers++;
        if (got != want) {
            tell(call, Boolean.toString(got), Boolean.toString(want));
        }
    }

    private static void tell(String call, String got, String want) {
        wrong++;
        System.out.println(sentence + ": " + call + " answered " + got + ", due is " + want);
    }

    static void end() {
        System.out.println(sentences + " sentences, " + answers + " answers, " + wrong + " not as due");
        if (wrong != 0) {
            System.exit(1);
        }
    }

    /** Just outside, the ends of int, and what a narrower type would take for a number inside. */
    static int[] outside(int least, int greatest) {
        int[] all = {least - 1, greatest + 1, Integer.MIN_VALUE, Integer.MAX_VALUE, Integer.MIN_VALUE + 1,
            least + 256, greatest - 256, least + 65536, greatest - 65536, least + (1 << 30), -greatest - 1};
        return Arrays.stream(all).filter(x -> x < least || x > greatest).distinct().toArray();
    }

    /** Both ends and what is just inside them. */
    static int[] inside(int least, int greatest) {
        return IntStream.of(least, least + 1, greatest - 1, greatest).distinct().toArray();
    }

    /** Every number that is not 0 .. count - 1, as far as it is worth a call. */
    static int[] noNumber(int count) {
        return outside(0, count - 1);
    }

    /** 0 - 1 - 2 - 3, each line with strength 1 and the limit. */
    static NodalAuction chain(int limit) {
        NodalAuction x = new NodalAuction();
        x.line(0, 1, 1, limit);
        x.line(1, 2, 1, limit);
        x.line(2, 3, 1, limit);
        return x;
    }

    /** All six lines, each with strength 1 and the limit. */
    static NodalAuction web(int limit) {
        NodalAuction x = new NodalAuction();
        for (int a = 0; a < 4; a++) {
            for (int b = a + 1; b < 4; b++) {
                x.line(a, b, 1, limit);
            }
        }
        return x;
    }

    /** A triangle of strengths 1 over the nodes 0, 1, 2, whose line 2 may be narrow; node 3 hangs on node 0. */
    static NodalAuction triangle(int narrow) {
        NodalAuction x = new NodalAuction();
        x.line(0, 1, 1, 100);
        x.line(1, 2, 1, 100);
        x.line(0, 2, 1, narrow);
        x.line(0, 3, 1, 100);
        return x;
    }

    private static final int[][] LINES = {
        {0, 1, 1, 6}, {2, 1, 3, 9}, {2, 3, 2, 5}, {3, 0, 5, 8}, {0, 2, 4, 7}, {3, 1, 2, 4}};
    /** 1 for a bid, 0 for an offer; node, price, quantity. */
    private static final int[][] STEPS = {
        {0, 0, 10, 9}, {1, 1, 40, 7}, {0, 2, 20, 8}, {1, 3, 35, 6}, {1, 2, 50, 3}, {0, 3, 15, 5}, {1, 0, 12, 4}, {0, 1, 30, 2}};

    static void addLine(NodalAuction x, int k) {
        x.line(LINES[k][0], LINES[k][1], LINES[k][2], LINES[k][3]);
    }

    static void addStep(NodalAuction x, int k) {
        add(x, STEPS[k][0] == 1, STEPS[k][1], STEPS[k][2], STEPS[k][3]);
    }

    static int add(NodalAuction x, boolean isBid, int node, int price, int quantity) {
        return isBid ? x.bid(node, price, quantity) : x.offer(node, price, quantity);
    }

    /** The first lines and steps of a market in which no two lines and no two steps are alike. */
    static NodalAuction motley(int lines, int steps) {
        NodalAuction x = new NodalAuction();
        for (int k = 0; k < lines; k++) {
            addLine(x, k);
        }
        for (int k = 0; k < steps; k++) {
            addStep(x, k);
        }
        return x;
    }

    /** An offer of 9 at node 0 and a bid of 5 at node 3, cleared over a chain: 5 go all the way. */
    static NodalAuction cleared() {
        NodalAuction x = chain(10);
        x.offer(0, 2, 9);
        x.bid(3, 6, 5);
        x.clear();
        return x;
    }

    /** All that can be asked of an object, in 55 calls: an object has 512. */
    static Map<String, Long> picture(NodalAuction x) {
        Map<String, Long> all = new LinkedHashMap<>();
        all.put("steps()", (long) x.steps());
        all.put("lines()", (long) x.lines());
        all.put("scale()", (long) x.scale());
        all.put("tight()", (long) x.tight());
        all.put("welfare()", x.welfare());
        for (int k = -1; k <= 8; k++) {
            all.put("accepted(" + k + ")", (long) x.accepted(k));
            all.put("flow(" + k + ")", (long) x.flow(k));
        }
        for (int n = 0; n < 4; n++) {
            all.put("extraTop(" + n + ")", x.extraTop(n));
            all.put("extraBottom(" + n + ")", (long) x.extraBottom(n));
        }
        int[][] prices = {{0, 0, 0, 0}, {10, 10, 10, 10}, {20, 20, 20, 20}, {40, 40, 40, 40}, {10, 30, 20, 15},
            {-1, 2, 0, 0}, {0, -1, 2, 0}, {0, 0, -1, 2}, {2, 0, 0, -1}, {1, 2, 3, 4}, {4, 3, 2, 1}};
        for (int[] p : prices) {
            all.put("check" + Arrays.toString(p), (long) x.check(p[0], p[1], p[2], p[3]));
            all.put("rent" + Arrays.toString(p), x.rent(p[0], p[1], p[2], p[3]));
        }
        return all;
    }

    static void same(String when, Map<String, Long> got, Map<String, Long> want) {
        for (Map.Entry<String, Long> e : want.entrySet()) {
            is(when + ": " + e.getKey(), got.get(e.getKey()), e.getValue());
        }
    }

    /** The two objects answer alike now, and again when both are cleared. */
    static void alike(String when, NodalAuction got, NodalAuction want) {
        same(when, picture(got), picture(want));
        is(when + ": clear()", got.clear(), want.clear());
        same(when + ", cleared", picture(got), picture(want));
    }

    static void noResults(String when, NodalAuction x) {
        is(when + ": scale()", x.scale(), 0);
        is(when + ": tight()", x.tight(), NONE);
        is(when + ": welfare()", x.welfare(), -1);
        for (int k = -1; k <= 8; k++) {
            is(when + ": accepted(" + k + ")", x.accepted(k), NONE);
            is(when + ": flow(" + k + ")", x.flow(k), NONE);
        }
        for (int n = -1; n <= 4; n++) {
            is(when + ": extraTop(" + n + ")", x.extraTop(n), 0);
            is(when + ": extraBottom(" + n + ")", x.extraBottom(n), 0);
        }
        is(when + ": check(2, 2, 2, 2)", x.check(2, 2, 2, 2), -1);
        is(when + ": rent(2, 0, 0, 6)", x.rent(2, 0, 0, 6), 0);
    }

    /** cleared() has its results: 5 units over all three lines. */
    static void hasResults(String when, NodalAuction x) {
        is(when + ": scale()", x.scale(), 1);
        is(when + ": welfare()", x.welfare(), 20);
        is(when + ": accepted(0)", x.accepted(0), 5);
        is(when + ": flow(2)", x.flow(2), 5);
        is(when + ": tight()", x.tight(), 0);
        is(when + ": extraTop(1)", x.extraTop(1), 2);
        is(when + ": extraBottom(1)", x.extraBottom(1), 1);
        is(when + ": check(2, 2, 2, 2)", x.check(2, 2, 2, 2), 0);
        is(when + ": rent(2, 0, 0, 6)", x.rent(2, 0, 0, 6), 20);
    }

    static void dueAmounts(String when, NodalAuction x, long scale, long... amounts) {
        is(when + ": scale()", x.scale(), scale);
        for (int k = 0; k < amounts.length; k++) {
            is(when + ": accepted(" + k + ")", x.accepted(k), amounts[k]);
        }
    }

    static void dueFlows(String when, NodalAuction x, long... flows) {
        for (int k = 0; k < flows.length; k++) {
            is(when + ": flow(" + k + ")", x.flow(k), flows[k]);
        }
    }
}
