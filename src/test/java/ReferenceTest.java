import java.util.ArrayList;
import java.util.Arrays;
import java.util.Comparator;
import java.util.List;
import java.util.Random;

/**
 * Random runs of calls, each answer held against a second program that works in another way: it
 * tries every corner of the grid's heights where three lines or nodes come to an edge, shares the
 * intake of each node out by merit, and keeps the best.
 */
public final class ReferenceTest {
    private static final int CALLS = 400;
    private static final int RUNS = 600;
    private static int wrong = 0;

    private record Line(int a, int b, int strength, int limit) { }

    private record Step(int side, int node, int price, int quantity) { }

    /** a * h1 + b * h2 + c * h3 = d, with h0 = 0. */
    private record Plane(long a, long b, long c, long d) { }

    /** Amounts and flows over one bottom; the welfare too. */
    private record Corner(long bottom, long[] amounts, long[] flows, long worth) { }

    private static final class Reference {
        private final List<Line> lines = new ArrayList<>();
        private final List<Step> steps = new ArrayList<>();
        private Corner best = null;

        long line(int a, int b, int strength, int limit) {
            if (a < 0 || a > 3 || b < 0 || b > 3 || a == b || strength < 1 || strength > 5 || limit < 0 || limit > 1000) {
                return NodalAuction.NONE;
            }
            for (Line l : lines) {
                if (l.a() + l.b() == a + b && (l.a() == a || l.a() == b)) {
                    return NodalAuction.NONE;
                }
            }
            lines.add(new Line(a, b, strength, limit));
            best = null;
            return lines.size() - 1;
        }

        long limit(int k, int limit) {
            if (k < 0 || k >= lines.size() || limit < 0 || limit > 1000) {
                return 0;
            }
            Line l = lines.get(k);
            lines.set(k, new Line(l.a(), l.b(), l.strength(), limit));
            best = null;
            return 1;
        }

        long cut(int k) {
            if (k < 0 || k >= lines.size()) {
                return 0;
            }
            lines.remove(k);
            best = null;
            return 1;
        }

        long step(int side, int node, int price, int quantity) {
            if (node < 0 || node > 3 || price < 0 || price > 1000 || quantity < 1 || quantity > 1000 || steps.size() == 8) {
                return NodalAuction.NONE;
            }
            steps.add(new Step(side, node, price, quantity));
            best = null;
            return steps.size() - 1;
        }

        long cancel(int k) {
            if (k < 0 || k >= steps.size()) {
                return 0;
            }
            steps.remove(k);
            best = null;
            return 1;
        }

        long clear() {
            best = null;
            if (!connected()) {
                return NodalAuction.NONE;
            }
            best = lowest(bestCorner(-1));
            return Arrays.stream(best.amounts()).filter(x -> x > 0).count();
        }

        long scale() {
            return best == null ? 0 : best.bottom();
        }

        long accepted(int k) {
            return best == null || k < 0 || k >= steps.size() ? NodalAuction.NONE : best.amounts()[k];
        }

        long flow(int k) {
            return best == null || k < 0 || k >= lines.size() ? NodalAuction.NONE : best.flows()[k];
        }

        long tight() {
            if (best == null) {
                return NodalAuction.NONE;
            }
            long sum = 0;
            for (int k = 0; k < lines.size(); k++) {
                long edge = lines.get(k).limit() * best.bottom();
                if (best.flows()[k] == edge || best.flows()[k] == -edge) {
                    sum |= 1L << k;
                }
            }
            return sum;
        }

        long welfare() {
            return best == null ? -1 : best.worth();
        }

        /** Top and bottom of what one more unit costs. */
        long[] extra(int node) {
            Corner other = best == null || node < 0 || node > 3 ? null : bestCorner(node);
            if (other == null) {
                return new long[] {0, 0};
            }
            long top = best.worth() * other.bottom() - other.worth() * best.bottom();
            long bottom = best.bottom() * other.bottom();
            long g = divisor(top, bottom);
            return new long[] {top / g, bottom / g};
        }

        long rent(int[] p) {
            return best == null || outside(p) ? 0 : rentNow(p);
        }

        long check(int[] p) {
            if (best == null || outside(p)) {
                return -1;
            }
            long sum = 0;
            for (int i = 0; i < steps.size(); i++) {
                Step s = steps.get(i);
                int here = p[s.node()];
                boolean loses = s.side() > 0 ? s.price() < here : s.price() > here;
                boolean gains = s.side() > 0 ? s.price() > here : s.price() < here;
                sum |= best.amounts()[i] > 0 && loses ? 1 : 0;
                sum |= best.amounts()[i] < s.quantity() * best.bottom() && gains ? 2 : 0;
            }
            return sum | (carriesMore(p) ? 4 : 0);
        }

        private long rentNow(int[] p) {
            long sum = 0;
            for (int i = 0; i < steps.size(); i++) {
                sum += steps.get(i).side() * best.amounts()[i] * p[steps.get(i).node()];
            }
            return sum;
        }

        private static boolean outside(int[] p) {
            return Arrays.stream(p).anyMatch(x -> x < -2000 || x > 2000);
        }

        private boolean connected() {
            int seen = 1;
            for (int round = 0; round < 4; round++) {
                for (Line l : lines) {
                    if ((seen >> l.a() & 1) != 0 || (seen >> l.b() & 1) != 0) {
                        seen |= 1 << l.a() | 1 << l.b();
                    }
                }
            }
            return seen == 15;
        }

        private long[] intakeRow(int n) {
            long[] row = new long[4];
            for (Line l : lines) {
                int other = l.a() == n ? l.b() : l.b() == n ? l.a() : -1;
                if (other >= 0) {
                    row[other] += l.strength();
                    row[n] -= l.strength();
                }
            }
            return row;
        }

        private long[] flowRow(Line l) {
            long[] row = new long[4];
            row[l.a()] = l.strength();
            row[l.b()] = -l.strength();
            return row;
        }

        private List<Plane> linePlanes() {
            List<Plane> planes = new ArrayList<>();
            for (Line l : lines) {
                long[] row = flowRow(l);
                planes.add(new Plane(row[1], row[2], row[3], l.limit()));
                if (l.limit() != 0) {
                    planes.add(new Plane(row[1], row[2], row[3], -l.limit()));
                }
            }
            return planes;
        }

        /** The steps of a node in the order in which a growing intake uses them: dear before cheap. */
        private List<Integer> merit(int n) {
            List<Integer> order = new ArrayList<>();
            for (int i = 0; i < steps.size(); i++) {
                if (steps.get(i).node() == n) {
                    order.add(i);
                }
            }
            Comparator<Integer> dear = Comparator.comparingInt(i -> -steps.get(i).price());
            Comparator<Integer> bidsFirst = Comparator.comparingInt(i -> -steps.get(i).side());
            Comparator<Integer> early = Comparator.comparingInt(i -> steps.get(i).side() * i);
            order.sort(dear.thenComparing(bidsFirst).thenComparing(early));
            return order;
        }

        private long leastIntake(int n) {
            return -steps.stream().filter(s -> s.node() == n && s.side() < 0).mapToLong(Step::quantity).sum();
        }

        private Corner bestCorner(int added) {
            List<Plane> planes = linePlanes();
            for (int n = 0; n < 4; n++) {
                long[] row = intakeRow(n);
                long edge = leastIntake(n) + (n == added ? 1 : 0);
                planes.add(new Plane(row[1], row[2], row[3], edge));
                for (int i : merit(n)) {
                    edge += steps.get(i).quantity();
                    planes.add(new Plane(row[1], row[2], row[3], edge));
                }
            }
            Corner found = null;
            for (long[] h : corners(planes)) {
                Corner c = dispatchAt(h, added);
                if (c != null && (found == null || isBetter(c, found))) {
                    found = c;
                }
            }
            return found;
        }

        /** The dispatch with the greatest welfare whose intakes are those of h = (bottom, h1, h2, h3). */
        private Corner dispatchAt(long[] h, int added) {
            long bottom = h[0];
            long[] amounts = new long[steps.size()];
            long worth = 0;
            for (int n = 0; n < 4; n++) {
                long left = times(intakeRow(n), h) - (n == added ? bottom : 0) - leastIntake(n) * bottom;
                if (left < 0) {
                    return null;
                }
                for (int i : merit(n)) {
                    Step s = steps.get(i);
                    long used = Math.min(left, s.quantity() * bottom);
                    left -= used;
                    amounts[i] = s.side() > 0 ? used : s.quantity() * bottom - used;
                    worth += s.side() * s.price() * amounts[i];
                }
                if (left > 0) {
                    return null;
                }
            }
            long[] flows = new long[lines.size()];
            for (int k = 0; k < flows.length; k++) {
                flows[k] = times(flowRow(lines.get(k)), h);
            }
            return new Corner(bottom, amounts, flows, worth);
        }

        private boolean carriesMore(int[] p) {
            long now = rentNow(p);
            for (long[] h : corners(linePlanes())) {
                long sum = 0;
                for (int n = 0; n < 4; n++) {
                    sum += p[n] * times(intakeRow(n), h);
                }
                if (sum * best.bottom() > now * h[0]) {
                    return true;
                }
            }
            return false;
        }

        /** Where three planes meet and no line carries too much: (bottom, h1, h2, h3), bottom above 0. */
        private List<long[]> corners(List<Plane> planes) {
            List<long[]> found = new ArrayList<>();
            for (int i = 0; i < planes.size(); i++) {
                for (int j = i + 1; j < planes.size(); j++) {
                    for (int k = j + 1; k < planes.size(); k++) {
                        long[] h = meet(planes.get(i), planes.get(j), planes.get(k));
                        if (h != null && withinLimits(h)) {
                            found.add(h);
                        }
                    }
                }
            }
            return found;
        }

        private boolean withinLimits(long[] h) {
            for (Line l : lines) {
                if (Math.abs(times(flowRow(l), h)) > l.limit() * h[0]) {
                    return false;
                }
            }
            return true;
        }

        private static long times(long[] row, long[] h) {
            return row[1] * h[1] + row[2] * h[2] + row[3] * h[3];
        }

        private static long determinant(long[] x, long[] y, long[] z) {
            return x[0] * (y[1] * z[2] - y[2] * z[1]) - y[0] * (x[1] * z[2] - x[2] * z[1])
                + z[0] * (x[1] * y[2] - x[2] * y[1]);
        }

        private static long[] meet(Plane p, Plane q, Plane r) {
            long[] a = {p.a(), q.a(), r.a()};
            long[] b = {p.b(), q.b(), r.b()};
            long[] c = {p.c(), q.c(), r.c()};
            long[] d = {p.d(), q.d(), r.d()};
            long bottom = determinant(a, b, c);
            if (bottom == 0) {
                return null;
            }
            long sign = bottom > 0 ? 1 : -1;
            return new long[] {sign * bottom, sign * determinant(d, b, c), sign * determinant(a, d, c), sign * determinant(a, b, d)};
        }

        private static boolean isBetter(Corner x, Corner y) {
            int order = Long.compare(x.worth() * y.bottom(), y.worth() * x.bottom());
            for (int i = 0; order == 0 && i < x.amounts().length; i++) {
                order = Long.compare(x.amounts()[i] * y.bottom(), y.amounts()[i] * x.bottom());
            }
            return order > 0;
        }

        private static Corner lowest(Corner c) {
            long g = c.bottom();
            for (long x : c.amounts()) {
                g = divisor(g, x);
            }
            for (long x : c.flows()) {
                g = divisor(g, x);
            }
            long common = g;
            long[] amounts = Arrays.stream(c.amounts()).map(x -> x / common).toArray();
            long[] flows = Arrays.stream(c.flows()).map(x -> x / common).toArray();
            return new Corner(c.bottom() / g, amounts, flows, c.worth() / g);
        }

        private static long divisor(long a, long b) {
            return b == 0 ? Math.abs(a) : divisor(b, a % b);
        }
    }

    /** One run: an object, its reference, and a taste for small or great numbers or for the bounds. */
    private static final class Run {
        private final long seed;
        private final Random random;
        private final NodalAuction made = new NodalAuction();
        private final Reference reference = new Reference();
        private final int dearest;
        private final int widest;
        private final int most;
        private final boolean likesBounds;
        private int calls = 0;

        Run(long seed) {
            this.seed = seed;
            random = new Random(seed);
            dearest = random.nextBoolean() ? 3 : random.nextBoolean() ? 20 : 1000;
            widest = random.nextBoolean() ? 4 : random.nextBoolean() ? 30 : 1000;
            most = random.nextBoolean() ? widest : random.nextBoolean() ? 7 : 1000;
            likesBounds = seed % 4 == 0;
        }

        void go(int count) {
            for (int i = 0; i < 20; i++) {
                change();
            }
            while (calls < count) {
                if (random.nextInt(12) == 0) {
                    change();
                } else if (random.nextInt(6) == 0) {
                    due("clear", made.clear(), reference.clear());
                } else {
                    ask();
                }
            }
        }

        private void due(String call, long got, long want) {
            calls++;
            if (got != want) {
                wrong++;
                System.out.println("seed " + seed + ", call " + calls + ": " + call + " answered " + got + ", due is " + want);
            }
        }

        private int upTo(int least, int greatest) {
            if (random.nextInt(60) == 0) {
                return random.nextBoolean() ? least - 1 : greatest + 1;
            }
            return least + random.nextInt(greatest - least + 1);
        }

        private int number(int least, int usual, int greatest) {
            if (random.nextInt(60) == 0) {
                int[] edges = {least - 1, least, greatest, greatest + 1, Integer.MIN_VALUE, Integer.MAX_VALUE};
                return edges[random.nextInt(edges.length)];
            }
            if (likesBounds && random.nextInt(3) != 0) {
                return random.nextBoolean() ? least : greatest;
            }
            return least + random.nextInt(usual - least + 1);
        }

        private void change() {
            int kind = random.nextInt(20);
            int k = upTo(0, 7);
            int limit = number(0, most, 1000);
            if (kind < 9) {
                int a = upTo(0, 3);
                int b = upTo(0, 3);
                int strength = upTo(1, 5);
                due("line", made.line(a, b, strength, limit), reference.line(a, b, strength, limit));
            } else if (kind < 17) {
                int side = random.nextBoolean() ? 1 : -1;
                int node = upTo(0, 3);
                int price = number(0, dearest, 1000);
                int quantity = number(1, widest, 1000);
                int got = side > 0 ? made.bid(node, price, quantity) : made.offer(node, price, quantity);
                due("bid or offer", got, reference.step(side, node, price, quantity));
            } else if (kind == 17) {
                due("limit", made.limit(k, limit) ? 1 : 0, reference.limit(k, limit));
            } else if (kind == 18) {
                due("cancel", made.cancel(k) ? 1 : 0, reference.cancel(k));
            } else if (random.nextInt(2) == 0) {
                due("cut", made.cut(k) ? 1 : 0, reference.cut(k));
            }
        }

        private void ask() {
            int k = upTo(0, 7);
            int node = upTo(0, 3);
            switch (random.nextInt(10)) {
                case 0 -> due("scale", made.scale(), reference.scale());
                case 1 -> due("accepted", made.accepted(k), reference.accepted(k));
                case 2 -> due("flow", made.flow(k), reference.flow(k));
                case 3 -> due("tight", made.tight(), reference.tight());
                case 4 -> due("welfare", made.welfare(), reference.welfare());
                case 5 -> due("extraTop", made.extraTop(node), reference.extra(node)[0]);
                case 6 -> due("extraBottom", made.extraBottom(node), reference.extra(node)[1]);
                case 7 -> due("steps", made.steps(), reference.steps.size());
                case 8 -> due("lines", made.lines(), reference.lines.size());
                default -> askPrices();
            }
        }

        private void askPrices() {
            int[] p = new int[4];
            int all = number(-3, dearest, 2000);
            boolean same = random.nextBoolean();
            for (int n = 0; n < 4; n++) {
                p[n] = same && random.nextInt(4) != 0 ? all : number(-3, dearest, 2000);
            }
            due("check", made.check(p[0], p[1], p[2], p[3]), reference.check(p));
            due("rent", made.rent(p[0], p[1], p[2], p[3]), reference.rent(p));
        }
    }

    public static void main(String[] args) {
        long first = args.length > 0 ? Long.parseLong(args[0]) : 1;
        long runs = args.length > 1 ? Long.parseLong(args[1]) : RUNS;
        for (long seed = first; seed < first + runs; seed++) {
            new Run(seed).go(CALLS);
        }
        System.out.println(wrong == 0 ? "all answers are as due" : wrong + " answers are not as due");
        if (wrong != 0) {
            System.exit(1);
        }
    }
}
