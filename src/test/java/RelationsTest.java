import java.util.ArrayList;
import java.util.List;
import java.util.Random;

/**
 * What must hold between the answers of several calls, whatever the program: no second telling of the document is asked
 * here, so a reading that is wrong in the class and in the model alike would still be seen. Each relation has an object
 * of its own, made by the same calls, and none is used for more than 512 of them.
 */
public final class RelationsTest {
    private static final int NONE = TickBound.NONE, SPENT = TickBound.SPENT;
    private static final int ORDER = 0, LOAD = 1, STORE = 2, BRANCH = 3, CALL = 4, LONG = 5, BACK = 7;
    private static final int SEEDS = 3000;
    private static final int CALLS_MOST = 512;

    private static int wrong = 0;
    private static int held = 0;
    /** How often a relation met what it is about: a told miss, a told hit, ends of runs, bounds, ways, proofs, locks. */
    private static final int[] seen = new int[12];
    /** A run of 600 orders has more steps than an object may be asked. */
    private static final int NEVER_SEEN = 6;

    private final int seed;
    private TickBound x;
    /** Of the latest object that was made: how many calls are left. */
    private int left;

    private RelationsTest(int seed) {
        this.seed = seed;
    }

    private void due(boolean right, String relation) {
        held++;
        if (!right) {
            wrong++;
            if (wrong < 30) {
                System.out.println("seed " + seed + ": " + relation);
            }
        }
    }

    // ---- an object, the same each time

    private static int from(Random chance, int low, int high) {
        return low + chance.nextInt(high - low + 1);
    }

    private void make() {
        Random chance = new Random(seed);
        x = new TickBound();
        String[] rules = {"age", "turn", "tree"};
        String[] guesses = {"never", "always", "last"};
        String text = "sets " + (1 << from(chance, 0, 2)) + " ways " + (1 << from(chance, 0, 2)) + " rule "
                + rules[from(chance, 0, 2)] + " miss " + from(chance, 40, 99) + " wrong " + from(chance, 0, 9) + " guess "
                + guesses[from(chance, 0, 2)] + " stall " + from(chance, 0, 9) + " long " + from(chance, 0, 2);
        left = CALLS_MOST - 10;
        Sentences.feedText(x, text);
        x.machine();
        int many = from(chance, 2, 14);
        for (int k = 0; k < many; k++) {
            makeOrder(chance, k, many);
        }
        for (int i = from(chance, 0, 2); i > 0; i--) {
            x.lock(from(chance, 0, 5), 1);
            x.memory(from(chance, 0, 11), from(chance, 0, 9));
            left -= 2;
        }
        int edges = x.edges();
        for (int e = 0; e < edges; e++) {
            if (x.edge(e, 2) == 1 && chance.nextInt(40) > 0) {
                x.turns(e, from(chance, 0, 3));
            }
            left -= 2;
        }
        left--;
    }

    private void makeOrder(Random chance, int k, int many) {
        int[] kinds = {ORDER, ORDER, LOAD, LOAD, LOAD, LOAD, STORE, STORE, BRANCH, BRANCH, BRANCH, CALL, LONG, 6, BACK};
        int kind = kinds[chance.nextInt(kinds.length)];
        int a = from(chance, 0, 3);
        left -= 2;
        switch (kind) {
            case ORDER:
                x.order(kind, a, from(chance, 0, 3), from(chance, -1, 3));
                break;
            case LOAD:
            case STORE:
                boolean told = chance.nextInt(5) > 0;
                x.order(kind, a, told ? 4 : from(chance, 0, 3), from(chance, 0, 11));
                break;
            case BRANCH:
                x.order(kind, a, chance.nextInt(3) == 0 ? from(chance, 0, k) : from(chance, k + 1, many), from(chance, 0, 5));
                break;
            case CALL:
                x.order(kind, a, chance.nextInt(6) == 0 ? from(chance, 0, k) : from(chance, k + 1, many), 0);
                break;
            case BACK:
                x.order(kind, a, 0, 0);
                x.places(k, 1 << from(chance, k + 1, many) | 1 << from(chance, 0, many));
                break;
            default:
                x.order(kind, a, from(chance, 0, 3), from(chance, 0, 3));
                break;
        }
    }

    /** Calls that a relation makes are told ahead, so that no object is asked more than it must answer. */
    private boolean mayAsk(int calls) {
        left -= calls;
        return left >= 0;
    }

    // ---- edges, blocks

    private void edgesStandByOrders() {
        make();
        int n = x.count(0);
        int edges = x.edges();
        if (!mayAsk(2 + 4 * edges + n)) {
            return;
        }
        int turns = 0;
        int numbers = 0;
        int before = -1;
        int[] many = new int[n];
        for (int e = 0; e < edges; e++) {
            int k = x.edge(e, 0);
            int j = x.edge(e, 1);
            due(k * 100 + j > before, "edges stand by orders, then by where they lead");
            before = k * 100 + j;
            many[k]++;
            due((x.edge(e, 2) == 1) == (j <= k), "a turn leads to its own order or one ahead");
            turns += j <= k ? 1 : 0;
            numbers += x.edge(e, 3) != NONE ? 1 : 0;
        }
        for (int k = 0; k < n; k++) {
            due(x.told(k, 5) == many[k], "as many edges as told");
        }
        due(x.count(1) == turns && x.count(2) == numbers, "turns are counted");
    }

    private void blocksAreRows() {
        make();
        int blocks = x.blocks();
        int next = 0;
        for (int b = 0; b < blocks; b++) {
            due(x.block(b, 0) == next, "a block begins behind the one ahead");
            due(x.block(b, 1) >= next, "a block has an order");
            next = x.block(b, 1) + 1;
        }
        due(next == x.count(0) && x.block(blocks, 0) == TickBound.BAD, "blocks go to the last order");
    }

    // ---- runs and what is told of all runs

    private void runsHoldWhatIsTold() {
        make();
        int n = x.count(0);
        int edges = x.edges();
        if (!mayAsk(3 * n + 4 * edges + 20)) {
            return;
        }
        int[] kind = new int[n + 1];
        int[] cost = new int[n + 1];
        int[] tells = new int[n + 1];
        int[][] by = new int[n + 1][n + 1];
        for (int k = 0; k < n; k++) {
            kind[k] = x.told(k, 0);
            cost[k] = x.told(k, 6);
            tells[k] = x.told(k, 7);
            due((tells[k] == NONE) == (kind[k] != LOAD && kind[k] != STORE), "loads tell");
        }
        for (int e = 0; e < edges; e++) {
            by[x.edge(e, 0)][x.edge(e, 1)] = x.edge(e, 4);
        }
        int miss = x.is(3);
        for (int input = 0; input < 4; input++) {
            x.run(13 * input);
            int steps = x.ran(1);
            if (!mayAsk(2 * steps + 10)) {
                return;
            }
            oneRun(steps, miss, kind, cost, tells, by);
        }
    }

    private void oneRun(int steps, int miss, int[] kind, int[] cost, int[] tells, int[][] by) {
        int end = x.ran(12);
        int sum = 0;
        int before = 0;
        int at = steps > 0 ? x.step(0, 0) : 0;
        int misses = 0;
        int asks = 0;
        due(at == 0, "a run begins at order 0");
        for (int i = 0; i < steps; i++) {
            int ticks = x.step(i, 1);
            boolean fails = i == steps - 1 && end >= 1 && end <= 3;
            due(ticks > before, "each order takes a tick");
            due(ticks <= sum + cost[at], "no later than costs");
            if (!fails && tells[at] != NONE) {
                // A miss takes more than all else that a load can take.
                boolean missed = ticks - before > miss;
                asks++;
                misses += missed ? 1 : 0;
                due(!missed || tells[at] != 0, "what tells a hit is one");
                due(missed || tells[at] != 1, "what tells a miss is one");
                seen[missed ? 0 : 1] += tells[at] == 2 ? 0 : 1;
            }
            int next = i + 1 < steps ? x.step(i + 1, 0) : x.ran(11);
            if (!fails) {
                due(by[at][next] > 0, "a run goes by edges");
                sum += by[at][next];
                due(ticks <= sum, "no later than edges");
            } else {
                due(ticks == before + 1 && next == at, "the order by which it ends takes 1 tick");
            }
            before = ticks;
            at = next;
        }
        due(x.ran(0) == before, "ticks are those of the last step");
        due(x.ran(2) + x.ran(3) == asks && x.ran(3) == misses, "hits and misses are counted");
        seen[2 + end]++;
    }

    private void shownIsOfRuns() {
        make();
        int most = NONE;
        int input = NONE;
        for (int i = 0; i < 16; i++) {
            if (x.run(i) == 0 && x.ran(10) == 1 && x.ran(0) > most) {
                most = x.ran(0);
                input = i;
            }
        }
        int ticks = x.ran(0);
        due(x.shown(4, 0) == most && x.shown(4, 1) == input, "shown is the greatest of runs");
        due(x.shown(3, 0) <= most, "more inputs show no less");
        due(x.ran(0) == ticks, "the latest run stays");
        int bound = x.bound();
        due(bound == NONE || bound == SPENT || most <= bound, "no run is later than the bound");
        due(bound != NONE || most == NONE || x.count(1) > x.count(2) || lacksPlace(), "a run is a way");
        seen[7] += bound >= 0 && most > NONE ? 1 : 0;
        seen[8] += bound >= 0 && most == bound ? 1 : 0;
    }

    private boolean lacksPlace() {
        int n = x.count(0);
        for (int k = 0; k < n; k++) {
            if (x.told(k, 5) == 0) {
                return true;
            }
        }
        return false;
    }

    private void recordIsOfSteps() {
        make();
        x.run(3);
        int steps = Math.min(30, x.ran(1));
        for (int round = 0; round < 2; round++) {
            for (int i = 0; i < steps; i++) {
                x.tell(x.step(i, 0));
                x.tell(x.step(i, 1) + (round == 1 && i == steps / 2 ? 1 : 0));
            }
            int want = round == 0 || steps == 0 ? 0 : 2 * (steps / 2) + 2;
            due(x.record() == want, "a run's own steps are its record");
        }
    }

    // ---- bounds

    private void theWayIsTheBound() {
        make();
        int bound = x.bound();
        int n = x.count(0);
        int edges = x.edges();
        if (bound < 0 || !mayAsk(5 * edges + 2)) {
            due(bound >= 0 ? left < 0 : x.way(0) == bound, "no way without a bound");
            return;
        }
        int[][] by = new int[n + 1][n + 1];
        int[][] number = new int[n + 1][n + 1];
        for (int e = 0; e < edges; e++) {
            int k = x.edge(e, 0);
            int j = x.edge(e, 1);
            by[k][j] = x.edge(e, 4);
            number[k][j] = x.edge(e, 2) == 1 ? x.edge(e, 3) : Integer.MAX_VALUE;
        }
        int sum = 0;
        int at = x.way(0);
        due(at == 0, "the way begins at order 0");
        for (int i = 1; at != n; i++) {
            if (!mayAsk(1)) {
                return;
            }
            int next = x.way(i);
            next = next == NONE ? n : next;
            due(by[at][next] > 0, "the way goes by edges");
            due(number[at][next] > 0, "no turn is taken more often than its number");
            number[at][next]--;
            sum += by[at][next];
            at = next;
        }
        due(sum == bound, "the way's costs are the bound");
        seen[9]++;
    }

    private void ownFactorsProve() {
        make();
        int proved = x.proves();
        int bound = x.bound();
        int n = x.count(0);
        int edges = x.edges();
        due(proved == NONE || bound < 0 || bound <= proved, "no bound is above what is proved");
        if (!mayAsk(4 * (2 * n + 3 * edges) + 25) || n + x.count(1) > 60) {
            return;
        }
        // As they are; all p more; the first p less; the first y less.
        int more = 1 + seed % 50;
        due(checkOwn(n, edges, 0, 0, 0) == proved, "own factors prove what is told");
        due(checkOwn(n, edges, more, 0, 0) == (proved == NONE ? NONE : proved + more), "all p may be more");
        int less = checkOwn(n, edges, 0, 1, 0);
        // The last edge of order 0 is a turn, too, if it leads to order 0 alone (or there is none at all).
        boolean goesOn = x.told(0, 5) > 0 && x.edge(x.told(0, 5) - 1, 2) == 0;
        due(proved == NONE ? less == NONE : !goesOn || less < 0 && less > -1000, "p is not more than it must be");
        int lessY = checkOwn(n, edges, 0, 0, 1);
        due(lessY == proved || lessY == TickBound.NO || proved == NONE || lessY < 0 && lessY > -1000,
                "y is not more than it must be");
        seen[10] += proved >= 0 ? 1 : 0;
    }

    private int checkOwn(int n, int edges, int more, int lessP, int lessY) {
        for (int k = 0; k < n; k++) {
            x.tell(x.factor(k) + more - (k == 0 ? lessP : 0));
        }
        int less = lessY;
        for (int e = 0; e < edges; e++) {
            if (x.edge(e, 2) == 1) {
                x.tell(x.shares(e) - less);
                less = 0;
            }
        }
        return x.check();
    }

    private void locksAreBounds() {
        make();
        int bound = x.bound();
        int before = Integer.MAX_VALUE;
        for (int k = 0; k <= 4; k++) {
            int least = x.locks(k, 0);
            int set = x.locks(k, 1);
            due(x.bound() == bound, "all is as it is");
            if (bound < 0) {
                due(least == bound && set == bound, "locks are as the bound");
                continue;
            }
            due(least <= before && Integer.bitCount(set) <= k, "more locks make it no greater");
            seen[11] += least < before ? 1 : 0;
            before = least;
            int[] was = new int[16];
            for (int line = 0; line < 16; line++) {
                was[line] = x.lock(line, set >> line & 1);
            }
            due(x.bound() == least, "the bound by the locks is that");
            for (int line = 0; line < 16; line++) {
                x.lock(line, was[line]);
            }
        }
    }

    private void sharedIsNoLess() {
        make();
        int bound = x.bound();
        due(x.shared(1, 99) == bound && x.shared(9, 0) == bound, "alone it is the bound");
        int before = bound;
        for (int n = 2; n <= 9; n++) {
            int now = x.shared(n, 7);
            due(bound < 0 ? now == bound : now >= before, "more on the line make it no less");
            before = now;
        }
        due(x.bound() == bound, "all is as it is");
    }

    private void answersAnswer() {
        Random chance = new Random(seed);
        x = new TickBound();
        int many = from(chance, 1, 8);
        int[] ticks = new int[many];
        int[] period = new int[many];
        int far = chance.nextBoolean() ? 60 : 9999;
        int first = -1;
        for (int w = 0; w < many; w++) {
            ticks[w] = from(chance, 1, 1 + far / 9);
            period[w] = from(chance, 1 + far / 6, far);
            x.work(ticks[w], period[w]);
        }
        for (int w = 0; w < many; w++) {
            int answer = x.answer(w);
            int least = NONE;
            for (int r = 1; r <= period[w] && least == NONE; r++) {
                long sum = ticks[w];
                for (int h = 0; h < w; h++) {
                    sum += (long) ticks[h] * ((r + period[h] - 1) / period[h]);
                }
                least = sum == r ? r : NONE;
            }
            due(answer == least, "the answer is the least");
            first = answer == NONE && first < 0 ? w : first;
        }
        due(x.fits() == first, "fits tells the first without one");
    }

    // ---- images

    private void imagesAreAllOfIt() {
        for (int view = 0; view < Sentences.VIEWS - 1; view++) {
            make();
            if (!mayAsk(420)) {
                return;
            }
            List<Integer> before = new ArrayList<>(Sentences.view(x, view));
            make();
            x.keep();
            x.clear();
            x.order(LOAD, 1, 4, 8);
            x.lock(4, 1);
            x.memory(3, 77);
            x.work(5, 50);
            Sentences.feedText(x, "miss 3 ways 1 guess always");
            x.machine();
            x.back();
            List<Integer> behind = Sentences.view(x, view);
            due(before.equals(behind), "the image is as it was, view " + view);
        }
    }

    private void all() {
        edgesStandByOrders();
        blocksAreRows();
        runsHoldWhatIsTold();
        shownIsOfRuns();
        recordIsOfSteps();
        theWayIsTheBound();
        ownFactorsProve();
        locksAreBounds();
        sharedIsNoLess();
        answersAnswer();
        if (seed % 10 == 0) {
            imagesAreAllOfIt();
        }
    }

    public static void main(String[] args) {
        int seeds = args.length > 1 ? Integer.parseInt(args[1]) : SEEDS;
        for (int seed = 0; seed < seeds; seed++) {
            new RelationsTest(seed).all();
        }
        for (int i = 0; i < seen.length; i++) {
            if (seen[i] < 100 && i != NEVER_SEEN) {
                wrong++;
                System.out.println("what relations are about was hardly met: " + i);
            }
        }
        System.out.println(held + " relations, " + wrong + " do not hold");
        if (wrong != 0) {
            System.exit(1);
        }
    }
}
