import java.util.ArrayList;
import java.util.Arrays;
import java.util.Collections;
import java.util.HashMap;
import java.util.List;
import java.util.Map;
import java.util.TreeMap;
import java.util.TreeSet;
import java.util.regex.Matcher;
import java.util.regex.Pattern;

/**
 * The document told a second time, as slowly and as near to its words as it goes, to hold the class against it.
 * Ways, sets and answers are looked for one by one. Edges and what must be there are kept until a call changes them, for
 * time alone.
 */
final class Model {
    static final int BAD = -1000000001, NO = -1000000002, FULL = -1000000003, SPENT = -1000000004,
            NONE = -1000000005, NOTHING = -1000000011, KIND = -1000000012, INDEX = -1000000013, SIZE = -1000000014;

    static final class Told {
        int kind, a, b, c, places;
    }

    static final class Kept {
        Map<String, Integer> machine = new TreeMap<>();
        List<Told> orders = new ArrayList<>();
        Map<Integer, Integer> numbers = new TreeMap<>();
        TreeSet<Integer> locked = new TreeSet<>();
        int[] memory = new int[32];
        List<int[]> works = new ArrayList<>();

        Kept twin() {
            Kept t = new Kept();
            t.machine.putAll(machine);
            for (Told o : orders) {
                Told p = new Told();
                p.kind = o.kind;
                p.a = o.a;
                p.b = o.b;
                p.c = o.c;
                p.places = o.places;
                t.orders.add(p);
            }
            t.numbers.putAll(numbers);
            t.locked.addAll(locked);
            t.memory = memory.clone();
            t.works.addAll(works);
            return t;
        }
    }

    static final class Ran {
        int ticks, hits, misses, wrong, stalls, at, by;
        boolean kept = true;
        int[] reg = new int[4];
        List<int[]> steps = new ArrayList<>();
    }

    static final String[] PARTS = {"sets", "ways", "rule", "miss", "wrong", "guess", "stall", "long"};

    Kept s = new Kept();
    Kept image = null;
    Ran ran = null;
    StringBuilder tape = new StringBuilder();
    List<Integer> waiting = new ArrayList<>();
    int[] sorts = {-1, -1, -1, -1};
    long[][] sheets = new long[4][];
    Object[] slots = new Object[6];
    int[] slotSorts = new int[6];
    List<int[]> knownEdges = null;
    Map<List<Integer>, List<Map<Integer, Integer>>> knownMust = new HashMap<>();

    Model() {
        int[] first = {1, 2, 0, 10, 3, 0, 1, 2};
        for (int i = 0; i < 8; i++) {
            s.machine.put(PARTS[i], first[i]);
        }
    }

    void forget() {
        knownEdges = null;
        knownMust.clear();
    }

    int m(String part) {
        return s.machine.get(part);
    }

    static boolean in(int v, int low, int high) {
        return low <= v && v <= high;
    }

    // ---- the machine

    int feed(int a, int b, int c) {
        if (tape.length() > 84) {
            return FULL;
        }
        for (int v : new int[] {a, b, c}) {
            for (int i = 3; i >= 0; i--) {
                tape.append((char) (v >> 8 * i & 255));
            }
        }
        return tape.length();
    }

    int trim(int n) {
        if (!in(n, 0, tape.length())) {
            return BAD;
        }
        tape.setLength(n);
        return n;
    }

    int machine() {
        String text = tape.toString();
        tape.setLength(0);
        Matcher word = Pattern.compile("[a-z]+|[0-9]+|[^ ]", Pattern.DOTALL).matcher(text);
        Map<String, Integer> told = new TreeMap<>();
        String part = null;
        int behind = -1;
        while (word.find()) {
            String w = word.group();
            int fault = -100 - word.start();
            if (word.start() == behind) {
                return fault;
            }
            behind = word.end();
            if (part == null) {
                if (!Arrays.asList(PARTS).contains(w) || told.containsKey(w)) {
                    return fault;
                }
                part = w;
            } else {
                List<String> names = part.equals("rule") ? List.of("age", "turn", "tree")
                        : part.equals("guess") ? List.of("never", "always", "last") : null;
                if (names != null ? !names.contains(w) : !w.matches("[0-9]{1,3}")) {
                    return fault;
                }
                told.put(part, names != null ? names.indexOf(w) : Integer.parseInt(w));
                part = null;
            }
        }
        if (part != null || told.isEmpty()) {
            return -100 - text.length();
        }
        for (Map.Entry<String, Integer> e : told.entrySet()) {
            String p = e.getKey();
            int v = e.getValue();
            boolean right = p.equals("sets") || p.equals("ways") ? v == 1 || v == 2 || v == 4
                    : p.equals("miss") ? v < 100 : v < 10;
            if (!right) {
                return NO;
            }
        }
        s.machine.putAll(told);
        ran = null;
        forget();
        return told.size();
    }

    int remembers() {
        int ways = m("ways");
        return m("rule") == 0 ? ways : m("rule") == 1 ? 1 : ways == 4 ? 3 : ways;
    }

    int is(int what) {
        return !in(what, 0, 8) ? BAD : what == 8 ? remembers() : m(PARTS[what]);
    }

    int memory(int address, int v) {
        if (!in(address, 0, 31)) {
            return BAD;
        }
        int was = s.memory[address];
        s.memory[address] = v;
        return was;
    }

    int lock(int line, int on) {
        if (!in(line, 0, 15) || !in(on, 0, 1)) {
            return BAD;
        }
        int was = s.locked.contains(line) ? 1 : 0;
        if (on == 1) {
            s.locked.add(line);
        } else {
            s.locked.remove(line);
        }
        return was;
    }

    // ---- orders

    static boolean under(int kind, int of) {
        String[] lines = {"0", "01", "012", "03", "034", "05", "056", "0347"};
        return lines[kind].indexOf('0' + of) >= 0;
    }

    int order(int kind, int a, int b, int c) {
        boolean small = in(c, -999, 999);
        boolean right;
        if (kind == 0) {
            right = in(b, 0, 3) && small;
        } else if (kind == 1 || kind == 2) {
            right = in(b, 0, 3) && small || b == 4 && in(c, 0, 31);
        } else if (kind == 3) {
            right = in(b, 0, 28) && small;
        } else if (kind == 4) {
            right = in(b, 0, 28) && c == 0;
        } else if (kind == 5 || kind == 6) {
            right = in(b, 0, 3) && in(c, 0, 3);
        } else {
            right = kind == 7 && b == 0 && c == 0;
        }
        if (!right || !in(a, 0, 3)) {
            return BAD;
        }
        if (s.orders.size() == 28) {
            return FULL;
        }
        Told o = new Told();
        o.kind = kind;
        o.a = a;
        o.b = b;
        o.c = c;
        s.orders.add(o);
        s.numbers.clear();
        ran = null;
        forget();
        return s.orders.size() - 1;
    }

    int clear() {
        int n = s.orders.size();
        s.orders.clear();
        s.numbers.clear();
        ran = null;
        forget();
        return n;
    }

    int told(int k, int what) {
        if (!in(k, 0, s.orders.size() - 1)) {
            return BAD;
        }
        Told o = s.orders.get(k);
        switch (what) {
            case 0: return o.kind;
            case 1: return o.a;
            case 2: return o.b;
            case 3: return o.c;
            case 4: return o.places;
            case 5: return leads(k).size();
            case 6: return cost(k, s.locked, m("miss"), must(s.locked));
            case 7: return under(o.kind, 1) ? tells(k, s.locked, must(s.locked)) : NONE;
            default: return BAD;
        }
    }

    int as(int k, int kind) {
        if (!in(k, 0, s.orders.size() - 1) || !in(kind, 0, 7)) {
            return BAD;
        }
        return under(s.orders.get(k).kind, kind) ? s.orders.get(k).c : KIND;
    }

    int places(int k, int set) {
        if (!in(k, 0, s.orders.size() - 1) || set < 0 || set > 0x1fffffff) {
            return BAD;
        }
        Told o = s.orders.get(k);
        if (o.kind != 7) {
            return KIND;
        }
        int was = o.places;
        o.places = set;
        s.numbers.clear();
        ran = null;
        forget();
        return was;
    }

    // ---- runs

    List<Integer> reads(int k) {
        Told o = s.orders.get(k);
        switch (o.kind) {
            case 0: return List.of(o.b);
            case 1: return o.b == 4 ? List.of() : List.of(o.b);
            case 2: return o.b == 4 ? List.of(o.a) : List.of(o.a, o.b);
            case 3: case 7: return List.of(o.a);
            case 4: return List.of();
            default: return List.of(o.b, o.c);
        }
    }

    /** A cache whose places are rows; -1 is empty. */
    final class Cache {
        int sets = m("sets"), ways = m("ways"), rule = m("rule");
        int[][] held = new int[sets][ways];
        List<List<Integer>> queue = new ArrayList<>();
        int[][] bit = new int[sets][3];

        Cache() {
            for (int i = 0; i < sets; i++) {
                Arrays.fill(held[i], -1);
                queue.add(new ArrayList<>());
            }
        }

        boolean ask(int line) {
            int set = line % sets;
            int p = 0;
            while (p < ways && held[set][p] != line) {
                p++;
            }
            boolean hit = p < ways;
            List<Integer> q = queue.get(set);
            if (!hit) {
                p = 0;
                while (p < ways && held[set][p] != -1) {
                    p++;
                }
                if (p == ways) {
                    if (rule == 2) {
                        p = ways == 1 ? 0 : ways == 2 ? bit[set][0] : 2 * bit[set][0] + bit[set][1 + bit[set][0]];
                    } else {
                        int goes = q.remove(0);
                        p = 0;
                        while (held[set][p] != goes) {
                            p++;
                        }
                    }
                }
                held[set][p] = line;
                q.add(line);
            } else if (rule == 0) {
                q.remove(Integer.valueOf(line));
                q.add(line);
            }
            if (ways == 2) {
                bit[set][0] = p == 0 ? 1 : 0;
            } else if (ways == 4) {
                bit[set][0] = p < 2 ? 1 : 0;
                bit[set][p < 2 ? 1 : 2] = p % 2 == 0 ? 1 : 0;
            }
            return hit;
        }
    }

    Ran runOf(int input) {
        Ran r = new Ran();
        r.reg[0] = input;
        int[] mem = s.memory.clone();
        Cache cache = new Cache();
        Map<Integer, Boolean> last = new HashMap<>();
        Map<List<Integer>, Integer> taken = new HashMap<>();
        int n = s.orders.size();
        int at = 0;
        int before = -1;
        while (true) {
            if (at >= n) {
                r.by = 0;
                r.at = n;
                break;
            }
            if (r.steps.size() == 600) {
                r.by = 4;
                r.at = at;
                break;
            }
            Told o = s.orders.get(at);
            int t = 1;
            int next = at + 1;
            int fails = 0;
            boolean stall = before >= 0 && s.orders.get(before).kind == 1
                    && reads(at).contains(s.orders.get(before).a);
            if (o.kind == 0) {
                r.reg[o.a] = r.reg[o.b] + o.c;
            } else if (o.kind == 1 || o.kind == 2) {
                int address = (o.b == 4 ? 0 : r.reg[o.b]) + o.c;
                if (!in(address, 0, 31)) {
                    fails = 2;
                } else {
                    boolean hit = s.locked.contains(address / 2) || cache.ask(address / 2);
                    if (hit) {
                        r.hits++;
                    } else {
                        r.misses++;
                        t += m("miss");
                    }
                    if (o.kind == 1) {
                        r.reg[o.a] = mem[address];
                    } else {
                        mem[address] = r.reg[o.a];
                        t++;
                    }
                }
            } else if (o.kind == 3) {
                boolean goes = r.reg[o.a] < o.c;
                boolean guess = m("guess") == 1 || m("guess") == 2 && last.getOrDefault(at, false);
                last.put(at, goes);
                if (goes != guess) {
                    r.wrong++;
                    t += m("wrong");
                }
                if (goes) {
                    next = o.b;
                }
            } else if (o.kind == 4) {
                t++;
                r.reg[o.a] = at + 1;
                next = o.b;
            } else if (o.kind == 7) {
                t++;
                next = r.reg[o.a];
                if (!in(next, 0, 28) || (o.places & 1 << next) == 0) {
                    fails = 3;
                }
            } else {
                String bits = Integer.toBinaryString(r.reg[o.c] & 255).replace("0", "");
                t += m("long") * bits.length();
                if (o.kind == 5) {
                    r.reg[o.a] = r.reg[o.b] * r.reg[o.c];
                } else if (r.reg[o.c] == 0) {
                    fails = 1;
                } else {
                    t += 2;
                    r.reg[o.a] = r.reg[o.b] / r.reg[o.c];
                }
            }
            if (fails > 0) {
                r.ticks++;
                r.steps.add(new int[] {at, r.ticks});
                r.by = fails;
                r.at = at;
                break;
            }
            if (stall) {
                t += m("stall");
                r.stalls++;
            }
            r.ticks += t;
            r.steps.add(new int[] {at, r.ticks});
            next = Math.min(next, n);
            taken.merge(List.of(at, next), 1, Integer::sum);
            before = at;
            at = next;
        }
        List<int[]> all = allEdges();
        for (int e = 0; e < all.size(); e++) {
            if (s.numbers.containsKey(e)
                    && taken.getOrDefault(List.of(all.get(e)[0], all.get(e)[1]), 0) > s.numbers.get(e)) {
                r.kept = false;
            }
        }
        return r;
    }

    int run(int input) {
        ran = runOf(input);
        return ran.by;
    }

    int ran(int what) {
        if (!in(what, 0, 12)) {
            return BAD;
        }
        if (ran == null) {
            return NO;
        }
        int[] r = {ran.ticks, ran.steps.size(), ran.hits, ran.misses, ran.wrong, ran.stalls, ran.reg[0], ran.reg[1],
                ran.reg[2], ran.reg[3], ran.kept ? 1 : 0, ran.at, ran.by};
        return r[what];
    }

    int step(int i, int what) {
        if (i < 0 || !in(what, 0, 1)) {
            return BAD;
        }
        return ran == null ? NO : i >= ran.steps.size() ? NONE : ran.steps.get(i)[what];
    }

    int shown(int n, int what) {
        if (!in(n, 0, 7) || !in(what, 0, 1)) {
            return BAD;
        }
        int[] best = null;
        for (int input = (1 << n) - 1; input >= 0; input--) {
            Ran r = runOf(input);
            if (r.by == 0 && r.kept && (best == null || r.ticks >= best[0])) {
                best = new int[] {r.ticks, input};
            }
        }
        return best == null ? NONE : best[what];
    }

    // ---- edges, blocks

    TreeSet<Integer> leads(int k) {
        Told o = s.orders.get(k);
        int n = s.orders.size();
        TreeSet<Integer> to = new TreeSet<>();
        if (o.kind == 3 || o.kind == 4) {
            to.add(Math.min(n, o.b));
        }
        if (o.kind == 7) {
            for (int p = 0; p <= 28; p++) {
                if ((o.places & 1 << p) != 0) {
                    to.add(Math.min(n, p));
                }
            }
        }
        if (o.kind != 4 && o.kind != 7) {
            to.add(k + 1);
        }
        return to;
    }

    List<int[]> allEdges() {
        if (knownEdges == null) {
            knownEdges = findEdges();
        }
        return knownEdges;
    }

    List<int[]> findEdges() {
        List<int[]> all = new ArrayList<>();
        for (int k = 0; k < s.orders.size(); k++) {
            for (int j : leads(k)) {
                all.add(new int[] {k, j});
            }
        }
        return all;
    }

    boolean turn(int e) {
        int[] edge = allEdges().get(e);
        return edge[1] <= edge[0];
    }

    int edges() {
        return allEdges().size();
    }

    int edge(int e, int what) {
        List<int[]> all = allEdges();
        if (!in(e, 0, all.size() - 1) || !in(what, 0, 4)) {
            return BAD;
        }
        return what < 2 ? all.get(e)[what] : what == 2 ? turn(e) ? 1 : 0
                : what == 3 ? s.numbers.getOrDefault(e, NONE) : costs(s.locked, m("miss")).get(e);
    }

    int turns(int e, int n) {
        if (!in(e, 0, edges() - 1) || n != NONE && !in(n, 0, 9)) {
            return BAD;
        }
        if (!turn(e)) {
            return KIND;
        }
        Integer was = n == NONE ? s.numbers.remove(e) : s.numbers.put(e, n);
        return was == null ? NONE : was;
    }

    List<Integer> starts() {
        List<Integer> firsts = new ArrayList<>();
        for (int k = 0; k < s.orders.size(); k++) {
            boolean first = k == 0 || under(s.orders.get(k - 1).kind, 3);
            for (int[] e : allEdges()) {
                first |= e[1] == k && e[0] != k - 1;
            }
            if (first) {
                firsts.add(k);
            }
        }
        return firsts;
    }

    int blocks() {
        return starts().size();
    }

    int block(int block, int what) {
        List<Integer> firsts = starts();
        if (!in(block, 0, firsts.size() - 1) || !in(what, 0, 1)) {
            return BAD;
        }
        firsts.add(s.orders.size());
        return what == 0 ? firsts.get(block) : firsts.get(block + 1) - 1;
    }

    // ---- what must, what may be there

    Integer line(int k) {
        Told o = s.orders.get(k);
        return under(o.kind, 1) && o.b == 4 ? o.c / 2 : null;
    }

    Map<Integer, Integer> behind(int k, Map<Integer, Integer> at, TreeSet<Integer> locked) {
        Map<Integer, Integer> out = new TreeMap<>(at);
        if (!under(s.orders.get(k).kind, 1)) {
            return out;
        }
        Integer asked = line(k);
        if (asked != null && locked.contains(asked)) {
            return out;
        }
        int was = asked == null ? 99 : at.getOrDefault(asked, 99);
        for (Map.Entry<Integer, Integer> e : at.entrySet()) {
            boolean sameSet = asked == null || e.getKey() % m("sets") == asked % m("sets");
            if (sameSet && e.getValue() < was) {
                out.put(e.getKey(), e.getValue() + 1);
            }
        }
        if (asked != null) {
            out.put(asked, 0);
        }
        out.values().removeIf(v -> v >= remembers());
        return out;
    }

    List<Map<Integer, Integer>> must(TreeSet<Integer> locked) {
        return knownMust.computeIfAbsent(new ArrayList<>(locked), l -> findMust(locked));
    }

    List<Map<Integer, Integer>> findMust(TreeSet<Integer> locked) {
        int n = s.orders.size();
        List<Map<Integer, Integer>> must = new ArrayList<>();
        Map<Integer, Integer> all = new TreeMap<>();
        for (int l = 0; l < 16; l++) {
            all.put(l, 0);
        }
        for (int k = 0; k < n; k++) {
            must.add(all);
        }
        while (true) {
            List<Map<Integer, Integer>> next = new ArrayList<>();
            for (int j = 0; j < n; j++) {
                Map<Integer, Integer> met = j == 0 ? new TreeMap<>() : null;
                for (int[] e : allEdges()) {
                    if (e[1] == j) {
                        Map<Integer, Integer> by = behind(e[0], must.get(e[0]), locked);
                        if (met == null) {
                            met = by;
                        } else {
                            met.keySet().retainAll(by.keySet());
                            for (Map.Entry<Integer, Integer> l : met.entrySet()) {
                                l.setValue(Math.max(l.getValue(), by.get(l.getKey())));
                            }
                        }
                    }
                }
                next.add(met == null ? all : met);
            }
            if (next.equals(must)) {
                return must;
            }
            must = next;
        }
    }

    /** A line may be at an order, if a way leads there behind one that asks it. */
    TreeSet<Integer> mayAt(int k, TreeSet<Integer> locked) {
        TreeSet<Integer> ahead = new TreeSet<>();
        List<Integer> todo = new ArrayList<>(List.of(k));
        while (!todo.isEmpty()) {
            int j = todo.remove(0);
            for (int[] e : allEdges()) {
                if (e[1] == j && ahead.add(e[0])) {
                    todo.add(e[0]);
                }
            }
        }
        TreeSet<Integer> may = new TreeSet<>();
        for (int j : ahead) {
            if (under(s.orders.get(j).kind, 1)) {
                if (line(j) == null) {
                    for (int l = 0; l < 16; l++) {
                        may.add(l);
                    }
                } else if (!locked.contains(line(j))) {
                    may.add(line(j));
                }
            }
        }
        return may;
    }

    int tells(int k, TreeSet<Integer> locked, List<Map<Integer, Integer>> must) {
        Integer l = line(k);
        if (l == null) {
            return 2;
        }
        return locked.contains(l) || must.get(k).containsKey(l) ? 0 : mayAt(k, locked).contains(l) ? 2 : 1;
    }

    int age(int k, int line) {
        if (!in(k, 0, s.orders.size() - 1) || !in(line, 0, 15)) {
            return BAD;
        }
        return must(s.locked).get(k).getOrDefault(line, NONE);
    }

    int may(int k, int line) {
        if (!in(k, 0, s.orders.size() - 1) || !in(line, 0, 15)) {
            return BAD;
        }
        return mayAt(k, s.locked).contains(line) ? 1 : 0;
    }

    // ---- bounds

    int cost(int k, TreeSet<Integer> locked, int miss, List<Map<Integer, Integer>> must) {
        int kind = s.orders.get(k).kind;
        int cost = 1;
        if (under(kind, 1) && tells(k, locked, must) != 0) {
            cost += miss;
        }
        return cost + kindCost(kind);
    }

    int kindCost(int kind) {
        int[] more = {0, 0, 1, m("wrong"), 1, 8 * m("long"), 8 * m("long") + 2, 1};
        return more[kind];
    }

    List<Integer> costs(TreeSet<Integer> locked, int miss) {
        List<Integer> costs = new ArrayList<>();
        List<Map<Integer, Integer>> must = must(locked);
        for (int[] e : allEdges()) {
            int cost = cost(e[0], locked, miss, must);
            Told o = s.orders.get(e[0]);
            if (o.kind == 1 && e[1] < s.orders.size() && reads(e[1]).contains(o.a)) {
                cost += m("stall");
            }
            costs.add(cost);
        }
        return costs;
    }

    /** Refusals of a bound that do not hang on costs: NONE, SPENT, or 0. */
    int refusal() {
        int n = s.orders.size();
        if (n == 0) {
            return 0;
        }
        TreeSet<Integer> reached = new TreeSet<>(List.of(0));
        List<Integer> todo = new ArrayList<>(reached);
        while (!todo.isEmpty()) {
            for (int j : leads(todo.remove(0))) {
                if (j < n && reached.add(j)) {
                    todo.add(j);
                }
            }
        }
        for (int k : reached) {
            if (leads(k).isEmpty()) {
                return NONE;
            }
        }
        List<int[]> all = allEdges();
        for (int e = 0; e < all.size(); e++) {
            if (reached.contains(all.get(e)[0]) && turn(e) && !s.numbers.containsKey(e)) {
                return NONE;
            }
        }
        double product = 1;
        for (int number : s.numbers.values()) {
            product *= number + 1;
        }
        return product > 600 ? SPENT : 0;
    }

    /** The greatest sum from an order on with what is left of each turn, with its way; null without one. */
    Object[] best(int k, List<Integer> left, List<Integer> costs, List<int[]> all, Map<List<Integer>, Object[]> known) {
        if (k == s.orders.size()) {
            return new Object[] {0, new ArrayList<Integer>()};
        }
        List<Integer> key = new ArrayList<>(left);
        key.add(k);
        if (known.containsKey(key)) {
            return known.get(key);
        }
        Object[] most = null;
        for (int e = 0; e < all.size(); e++) {
            if (all.get(e)[0] != k) {
                continue;
            }
            boolean turns = all.get(e)[1] <= k;
            if (turns && left.get(e) <= 0) {
                continue;
            }
            List<Integer> rest = new ArrayList<>(left);
            if (turns) {
                rest.set(e, rest.get(e) - 1);
            }
            Object[] by = best(all.get(e)[1], rest, costs, all, known);
            if (by != null && (most == null || (Integer) by[0] + costs.get(e) > (Integer) most[0])) {
                List<Integer> way = new ArrayList<>(List.of(k));
                for (Object o : (List<?>) by[1]) {
                    way.add((Integer) o);
                }
                most = new Object[] {(Integer) by[0] + costs.get(e), way};
            }
        }
        known.put(key, most);
        return most;
    }

    Object[] bestNow(TreeSet<Integer> locked, int miss) {
        List<int[]> all = allEdges();
        List<Integer> left = new ArrayList<>();
        for (int e = 0; e < all.size(); e++) {
            left.add(s.numbers.getOrDefault(e, 0));
        }
        return best(0, left, costs(locked, miss), all, new HashMap<>());
    }

    int boundIf(TreeSet<Integer> locked, int miss) {
        if (refusal() != 0) {
            return refusal();
        }
        Object[] best = bestNow(locked, miss);
        return best == null ? NONE : (Integer) best[0];
    }

    int bound() {
        return boundIf(s.locked, m("miss"));
    }

    int way(int i) {
        if (i < 0) {
            return BAD;
        }
        if (bound() < 0) {
            return bound();
        }
        List<?> way = (List<?>) bestNow(s.locked, m("miss"))[1];
        return i < way.size() ? (Integer) way.get(i) : NONE;
    }

    int p(int k, List<Integer> costs) {
        List<int[]> all = allEdges();
        int most = 0;
        for (int e = 0; e < all.size(); e++) {
            if (all.get(e)[0] == k && all.get(e)[1] > k) {
                most = Math.max(most, costs.get(e) + ps(all.get(e)[1], costs));
            }
        }
        return most;
    }

    Map<Integer, Integer> knownP = new HashMap<>();

    int ps(int k, List<Integer> costs) {
        if (!knownP.containsKey(k)) {
            knownP.put(k, p(k, costs));
        }
        return knownP.get(k);
    }

    int factor(int k) {
        if (!in(k, 0, s.orders.size() - 1)) {
            return BAD;
        }
        knownP.clear();
        return ps(k, costs(s.locked, m("miss")));
    }

    int shares(int e) {
        if (!in(e, 0, edges() - 1)) {
            return BAD;
        }
        if (!turn(e)) {
            return KIND;
        }
        int[] edge = allEdges().get(e);
        int y = 0;
        while (factor(edge[0]) + y < edge(e, 4) + factor(edge[1])) {
            y++;
        }
        return y;
    }

    List<Integer> allTurns() {
        List<Integer> turns = new ArrayList<>();
        for (int e = 0; e < edges(); e++) {
            if (turn(e)) {
                turns.add(e);
            }
        }
        return turns;
    }

    int proves() {
        int sum = s.orders.isEmpty() ? 0 : factor(0);
        for (int e : allTurns()) {
            if (!s.numbers.containsKey(e)) {
                return NONE;
            }
            sum += shares(e) * s.numbers.get(e);
        }
        return sum;
    }

    int locks(int k, int what) {
        if (!in(k, 0, 8) || !in(what, 0, 1)) {
            return BAD;
        }
        if (bound() < 0) {
            return bound();
        }
        TreeSet<Integer> lines = new TreeSet<>();
        for (int i = 0; i < s.orders.size(); i++) {
            if (line(i) != null) {
                lines.add(line(i));
            }
        }
        List<Integer> of = new ArrayList<>(lines).subList(0, Math.min(8, lines.size()));
        List<int[]> sets = new ArrayList<>();
        for (int bits = 0; bits < 1 << of.size(); bits++) {
            TreeSet<Integer> set = new TreeSet<>();
            int value = 0;
            for (int i = 0; i < of.size(); i++) {
                if ((bits & 1 << i) != 0) {
                    set.add(of.get(i));
                    value += 1 << of.get(i);
                }
            }
            if (set.size() <= k) {
                sets.add(new int[] {boundIf(set, m("miss")), set.size(), value});
            }
        }
        int[] best = Collections.min(sets, Arrays::compare);
        return what == 0 ? best[0] : best[2];
    }

    int shared(int n, int time) {
        return !in(n, 1, 9) || !in(time, 0, 99) ? BAD : boundIf(s.locked, m("miss") + (n - 1) * time);
    }

    int work(int ticks, int period) {
        if (!in(ticks, 1, 9999) || !in(period, 1, 9999)) {
            return BAD;
        }
        if (s.works.size() == 8) {
            return FULL;
        }
        s.works.add(new int[] {ticks, period});
        return s.works.size() - 1;
    }

    int answer(int work) {
        if (!in(work, 0, s.works.size() - 1)) {
            return BAD;
        }
        for (int r = 1; r <= s.works.get(work)[1]; r++) {
            long sum = s.works.get(work)[0];
            for (int[] w : s.works.subList(0, work)) {
                sum += (long) w[0] * (r / w[1] + (r % w[1] == 0 ? 0 : 1));
            }
            if (sum == r) {
                return r;
            }
        }
        return NONE;
    }

    int fits() {
        for (int w = 0; w < s.works.size(); w++) {
            if (answer(w) == NONE) {
                return w;
            }
        }
        return -1;
    }

    // ---- sheets, slots

    int sheet(int sheet, int sort, int n) {
        if (!in(sheet, 0, 3) || !in(sort, -1, 3) || sort >= 0 && n > 32) {
            return BAD;
        }
        if (sort >= 0 && n < 0) {
            return SIZE;
        }
        sorts[sheet] = sort;
        sheets[sheet] = sort < 0 ? null : new long[n];
        return sort < 0 ? 0 : n;
    }

    int mark(int sheet, int place, int v) {
        if (!in(sheet, 0, 3)) {
            return BAD;
        }
        if (sheets[sheet] == null) {
            return NOTHING;
        }
        if (!in(place, 0, sheets[sheet].length - 1)) {
            return INDEX;
        }
        sheets[sheet][place] = sorts[sheet] == 0 ? (byte) v : sorts[sheet] == 1 ? (short) v : v;
        return 1;
    }

    int pour(int sheet, int place, int address, int n) {
        if (!in(sheet, 0, 3) || !in(address, 0, 31) || !in(n, 0, 32) || address + n > 32) {
            return BAD;
        }
        if (sheets[sheet] == null) {
            return NOTHING;
        }
        if (place < 0 || (long) place + n > sheets[sheet].length) {
            return INDEX;
        }
        for (int i = 0; i < n; i++) {
            s.memory[address + i] = (int) sheets[sheet][place + i];
        }
        return n;
    }

    int copy(int from, int place, int to, int at, int many) {
        if (!in(from, 0, 3) || !in(to, 0, 3)) {
            return BAD;
        }
        if (sheets[from] == null || sheets[to] == null) {
            return NOTHING;
        }
        if (sorts[from] != sorts[to]) {
            return KIND;
        }
        if (place < 0 || at < 0 || many < 0 || (long) place + many > sheets[from].length
                || (long) at + many > sheets[to].length) {
            return INDEX;
        }
        long[] was = sheets[from].clone();
        for (int i = 0; i < many; i++) {
            sheets[to][at + i] = was[place + i];
        }
        return many;
    }

    int lay(int slot, int thing, int k) {
        if (!in(slot, 0, 5) || !in(thing, 0, 3) || thing == 1 && !in(k, 0, s.orders.size() - 1)
                || thing == 2 && !in(k, 0, 3)) {
            return BAD;
        }
        if (thing == 2 && sheets[k] == null) {
            return NOTHING;
        }
        int held = slotSorts[slot];
        slotSorts[slot] = thing;
        slots[slot] = thing == 0 ? null : thing == 1 ? s.twin().orders.get(k) : thing == 2 ? sheets[k].clone() : k;
        return held;
    }

    int ask(int slot, int kind) {
        if (!in(slot, 0, 5) || !in(kind, 0, 7)) {
            return BAD;
        }
        if (slots[slot] == null) {
            return NOTHING;
        }
        if (!(slots[slot] instanceof Told)) {
            return KIND;
        }
        Told o = (Told) slots[slot];
        if (!under(o.kind, kind)) {
            return KIND;
        }
        boolean miss = under(o.kind, 1) && !(o.b == 4 && s.locked.contains(o.c / 2));
        return 1 + (miss ? m("miss") : 0) + kindCost(o.kind);
    }

    int item(int slot, int place) {
        if (!in(slot, 0, 5)) {
            return BAD;
        }
        if (slots[slot] == null) {
            return NOTHING;
        }
        if (!(slots[slot] instanceof long[])) {
            return KIND;
        }
        long[] row = (long[]) slots[slot];
        return in(place, 0, row.length - 1) ? (int) row[place] : INDEX;
    }

    // ---- rows, images

    int tell(int v) {
        if (waiting.size() == 60) {
            return FULL;
        }
        waiting.add(v);
        return waiting.size();
    }

    int check() {
        List<Integer> f = new ArrayList<>(waiting);
        waiting.clear();
        int n = s.orders.size();
        List<Integer> turns = allTurns();
        if (f.size() != n + turns.size()) {
            return NO;
        }
        for (int y : f.subList(n, f.size())) {
            if (y < 0) {
                return NO;
            }
        }
        if (!s.numbers.keySet().containsAll(turns)) {
            return NONE;
        }
        List<int[]> all = allEdges();
        List<Integer> costs = costs(s.locked, m("miss"));
        long sum = n == 0 ? 0 : f.get(0);
        for (int e = 0; e < all.size(); e++) {
            long y = turns.contains(e) ? f.get(n + turns.indexOf(e)) : 0;
            long pj = all.get(e)[1] == n ? 0 : f.get(all.get(e)[1]);
            if (f.get(all.get(e)[0]) + y < costs.get(e) + pj) {
                return -11 - e;
            }
            sum += y * s.numbers.getOrDefault(e, 0);
        }
        return sum < 0 || sum > 2000000000L ? KIND : (int) sum;
    }

    int record() {
        List<Integer> f = new ArrayList<>(waiting);
        waiting.clear();
        if (ran == null) {
            return NO;
        }
        List<Integer> due = new ArrayList<>();
        for (int[] step : ran.steps) {
            due.add(step[0]);
            due.add(step[1]);
        }
        int i = 0;
        while (i < f.size() && i < due.size() && f.get(i).equals(due.get(i))) {
            i++;
        }
        return i == f.size() ? 0 : i + 1;
    }

    int keep() {
        image = s.twin();
        return s.orders.size();
    }

    int back() {
        if (image == null) {
            return NO;
        }
        s = image.twin();
        ran = null;
        forget();
        return s.orders.size();
    }

    int count(int what) {
        if (!in(what, 0, 6)) {
            return BAD;
        }
        int[] counts = {s.orders.size(), allTurns().size(), s.numbers.size(), s.locked.size(), s.works.size(),
                waiting.size(), tape.length()};
        return counts[what];
    }
}
