import java.util.Random;

/** Runs of chance calls (always the same ones), each answer held against the model's. */
public final class ModelTest {
    private static final int RUNS = 700;
    private static int wrong = 0;
    private static int calls = 0;

    private final int seed;
    private final Random chance;
    private final TickBound x = new TickBound();
    private final Model y = new Model();

    private ModelTest(int seed) {
        this.seed = seed;
        chance = new Random(seed);
    }

    private int call(String name, int... v) {
        int got = ofClass(name, v);
        int want = ofModel(name, v);
        calls++;
        if (got != want) {
            wrong++;
            if (wrong < 30) {
                System.out.println("seed " + seed + ": " + name + java.util.Arrays.toString(v) + " answered " + got
                        + ", the model " + want);
            }
        }
        return got;
    }

    private int ofClass(String name, int[] v) {
        switch (name) {
            case "feed": return x.feed(v[0], v[1], v[2]);
            case "trim": return x.trim(v[0]);
            case "machine": return x.machine();
            case "is": return x.is(v[0]);
            case "memory": return x.memory(v[0], v[1]);
            case "lock": return x.lock(v[0], v[1]);
            case "order": return x.order(v[0], v[1], v[2], v[3]);
            case "clear": return x.clear();
            case "told": return x.told(v[0], v[1]);
            case "as": return x.as(v[0], v[1]);
            case "places": return x.places(v[0], v[1]);
            case "run": return x.run(v[0]);
            case "ran": return x.ran(v[0]);
            case "step": return x.step(v[0], v[1]);
            case "shown": return x.shown(v[0], v[1]);
            case "edges": return x.edges();
            case "edge": return x.edge(v[0], v[1]);
            case "turns": return x.turns(v[0], v[1]);
            case "blocks": return x.blocks();
            case "block": return x.block(v[0], v[1]);
            case "age": return x.age(v[0], v[1]);
            case "may": return x.may(v[0], v[1]);
            case "bound": return x.bound();
            case "way": return x.way(v[0]);
            case "factor": return x.factor(v[0]);
            case "shares": return x.shares(v[0]);
            case "proves": return x.proves();
            case "locks": return x.locks(v[0], v[1]);
            case "shared": return x.shared(v[0], v[1]);
            case "work": return x.work(v[0], v[1]);
            case "answer": return x.answer(v[0]);
            case "fits": return x.fits();
            case "sheet": return x.sheet(v[0], v[1], v[2]);
            case "mark": return x.mark(v[0], v[1], v[2]);
            case "pour": return x.pour(v[0], v[1], v[2], v[3]);
            case "copy": return x.copy(v[0], v[1], v[2], v[3], v[4]);
            case "lay": return x.lay(v[0], v[1], v[2]);
            case "ask": return x.ask(v[0], v[1]);
            case "item": return x.item(v[0], v[1]);
            case "tell": return x.tell(v[0]);
            case "check": return x.check();
            case "record": return x.record();
            case "keep": return x.keep();
            case "back": return x.back();
            case "count": return x.count(v[0]);
            default: throw new IllegalArgumentException(name);
        }
    }

    private int ofModel(String name, int[] v) {
        switch (name) {
            case "feed": return y.feed(v[0], v[1], v[2]);
            case "trim": return y.trim(v[0]);
            case "machine": return y.machine();
            case "is": return y.is(v[0]);
            case "memory": return y.memory(v[0], v[1]);
            case "lock": return y.lock(v[0], v[1]);
            case "order": return y.order(v[0], v[1], v[2], v[3]);
            case "clear": return y.clear();
            case "told": return y.told(v[0], v[1]);
            case "as": return y.as(v[0], v[1]);
            case "places": return y.places(v[0], v[1]);
            case "run": return y.run(v[0]);
            case "ran": return y.ran(v[0]);
            case "step": return y.step(v[0], v[1]);
            case "shown": return y.shown(v[0], v[1]);
            case "edges": return y.edges();
            case "edge": return y.edge(v[0], v[1]);
            case "turns": return y.turns(v[0], v[1]);
            case "blocks": return y.blocks();
            case "block": return y.block(v[0], v[1]);
            case "age": return y.age(v[0], v[1]);
            case "may": return y.may(v[0], v[1]);
            case "bound": return y.bound();
            case "way": return y.way(v[0]);
            case "factor": return y.factor(v[0]);
            case "shares": return y.shares(v[0]);
            case "proves": return y.proves();
            case "locks": return y.locks(v[0], v[1]);
            case "shared": return y.shared(v[0], v[1]);
            case "work": return y.work(v[0], v[1]);
            case "answer": return y.answer(v[0]);
            case "fits": return y.fits();
            case "sheet": return y.sheet(v[0], v[1], v[2]);
            case "mark": return y.mark(v[0], v[1], v[2]);
            case "pour": return y.pour(v[0], v[1], v[2], v[3]);
            case "copy": return y.copy(v[0], v[1], v[2], v[3], v[4]);
            case "lay": return y.lay(v[0], v[1], v[2]);
            case "ask": return y.ask(v[0], v[1]);
            case "item": return y.item(v[0], v[1]);
            case "tell": return y.tell(v[0]);
            case "check": return y.check();
            case "record": return y.record();
            case "keep": return y.keep();
            case "back": return y.back();
            case "count": return y.count(v[0]);
            default: throw new IllegalArgumentException(name);
        }
    }

    private int from(int low, int high) {
        return low + chance.nextInt(high - low + 1);
    }

    private boolean once(int in) {
        return chance.nextInt(in) == 0;
    }

    /** Mostly a number of those, at times one next to them or far off. */
    private int near(int low, int high) {
        if (once(12)) {
            int[] odd = {low - 1, high + 1, -1, Integer.MIN_VALUE, Integer.MAX_VALUE, Model.NONE, low - 7, high + 9};
            return odd[chance.nextInt(odd.length)];
        }
        return from(low, Math.max(low, high));
    }

    // ---- texts

    private void tellText(String text) {
        StringBuilder padded = new StringBuilder(text.length() > 96 ? text.substring(0, 96) : text);
        int length = padded.length();
        while (padded.length() % 12 != 0) {
            padded.append((char) from(0, 255));
        }
        for (int i = 0; i < padded.length(); i += 12) {
            int[] v = new int[3];
            for (int j = 0; j < 12; j++) {
                v[j / 4] = v[j / 4] << 8 | padded.charAt(i + j) & 255;
            }
            call("feed", v);
        }
        call("trim", length);
    }

    private String part(int part) {
        String[] rules = {"age", "turn", "tree"};
        String[] guesses = {"never", "always", "last"};
        int[] powers = {1, 2, 4};
        switch (part) {
            case 2: return "rule " + rules[from(0, 2)];
            case 5: return "guess " + guesses[from(0, 2)];
            case 0: case 1: return Model.PARTS[part] + " " + powers[from(0, 2)];
            default: return Model.PARTS[part] + " " + from(0, part == 3 ? 99 : 9);
        }
    }

    private void tellMachine(boolean sound) {
        StringBuilder text = new StringBuilder();
        int start = from(0, 7);
        int many = from(1, 8);
        for (int i = 0; i < many; i++) {
            text.append(i == 0 ? once(5) ? "  " : "" : once(5) ? "   " : " ").append(part((start + i * 3) % 8));
        }
        for (int i = 0; !sound && i < from(1, 2) && text.length() > 0; i++) {
            int at = from(0, text.length() - 1);
            switch (from(0, 6)) {
                case 0: text.setLength(at); break;
                case 1: text.setCharAt(at, (char) from(0, 255)); break;
                case 2: text.insert(at, from(0, 9)); break;
                case 3: text.insert(at, ' '); break;
                case 4: text.append(' ').append(part(from(0, 7))); break;
                case 5: text.deleteCharAt(at); break;
                default: text.append(once(2) ? " " : " sets 12345"); break;
            }
        }
        if (once(4)) {
            text.append("  ");
        }
        tellText(text.toString());
        call("machine");
        for (int i = 0; i <= 8; i++) {
            call("is", i);
        }
    }

    // ---- programs

    private void tellOrders(int many, boolean forth) {
        for (int k = 0; k < many; k++) {
            int kind = from(0, 9);
            if (kind > 7 || kind == 7 && once(2)) {
                kind = from(1, 3);
            }
            int aim = once(3) ? from(0, many + 1) : Math.min(28, from(k + 1, k + 4));
            int a = from(0, 3);
            if (kind == 0) {
                call("order", 0, a, from(0, 3), once(3) ? from(-999, 999) : from(-2, 3));
            } else if (kind == 1 || kind == 2) {
                boolean told = !once(4);
                call("order", kind, a, told ? 4 : from(0, 3), told ? from(0, once(2) ? 9 : 31) : from(-3, 20));
            } else if (kind == 3) {
                call("order", 3, a, forth ? aim : from(0, 28), from(-1, 6));
            } else if (kind == 4) {
                call("order", 4, a, forth ? aim : from(0, 28), 0);
            } else if (kind == 7) {
                call("order", 7, a, 0, 0);
                call("places", k, once(6) ? 0 : 1 << from(0, many) | 1 << from(0, 28) | (once(3) ? 1 << k + 1 : 0));
            } else {
                call("order", kind, a, from(0, 3), from(0, 3));
            }
        }
        for (int k = 0; k < many; k++) {
            if (x.told(k, 0) == 7 && once(2)) {
                call("places", k, 1 << from(0, many) | 1 << from(0, 28));
            }
        }
    }

    private void tellNumbers() {
        int most = from(1, 3);
        int room = 60;
        for (int e = 0; e < x.edges(); e++) {
            if (x.edge(e, 2) == 1 && !once(25)) {
                int n = Math.min(from(0, once(6) ? 9 : most), once(30) ? 9 : room - 1);
                room = Math.max(1, room / (n + 1));
                call("turns", e, n);
            }
        }
    }

    private void askProgram() {
        int n = call("count", 0);
        for (int k = -1; k <= n; k++) {
            for (int what = -1; what <= 8; what++) {
                call("told", k, what);
            }
            for (int kind = -1; kind <= 8; kind++) {
                call("as", k, kind);
            }
            call("factor", k);
        }
        for (int i = 0; i < 12; i++) {
            call("age", near(0, n - 1), near(0, 15));
            call("may", near(0, n - 1), near(0, 15));
        }
        int edges = call("edges");
        for (int e = -1; e <= edges; e++) {
            for (int what = -1; what <= 5; what++) {
                call("edge", e, what);
            }
            if (once(3)) {
                call("shares", e);
            }
        }
        int blocks = call("blocks");
        for (int b = -1; b <= blocks; b++) {
            call("block", b, from(-1, 2));
            call("block", b, 0);
            call("block", b, 1);
        }
    }

    /** No run that is kept is later than the bound, and no bound greater than what own factors prove. */
    private void neverLater() {
        int bound = call("bound");
        int shown = x.shown(4, 0);
        int proved = x.proves();
        if (bound >= 0 && shown > bound || bound >= 0 && proved >= 0 && proved < bound) {
            wrong++;
            System.out.println("seed " + seed + ": shown " + shown + ", bound " + bound + ", proved " + proved);
        }
    }

    private void askBounds() {
        neverLater();
        for (int i = -1; i < 12; i++) {
            call("way", i);
        }
        call("way", from(10, 80));
        call("proves");
        call("shared", near(1, 9), near(0, 99));
        call("bound");
        int lines = 0;
        for (int k = 0; k < x.count(0); k++) {
            lines += x.told(k, 7) >= 0 ? 1 : 0;
        }
        if (lines < 5 || once(4)) {
            call("locks", near(0, 8), 0);
            call("locks", near(0, 3), 1);
        }
        call("bound");
    }

    private void askRuns() {
        for (int i = 0; i < 3; i++) {
            call("run", once(3) ? chance.nextInt() : from(-2, 9));
            for (int what = -1; what <= 13; what++) {
                call("ran", what);
            }
            for (int j = 0; j < 8; j++) {
                call("step", once(4) ? from(-1, 610) : from(0, 9), near(0, 1));
            }
            int steps = Math.min(x.ran(1), 30);
            for (int j = 0; j < steps && !once(9); j++) {
                call("tell", x.step(j, 0) + (once(40) ? 1 : 0));
                call("tell", x.step(j, 1) + (once(40) ? 1 : 0));
            }
            if (once(3)) {
                call("tell", from(0, 4));
            }
            call("record");
        }
        call("shown", near(0, 4), near(0, 1));
        call("ran", 0);
    }

    private void askCheck() {
        int n = x.count(0);
        int far = once(3) ? from(0, 3) : 0;
        for (int k = 0; k < n; k++) {
            call("tell", x.factor(k) + (once(3) ? far : 0) - (once(60) ? 1 : 0));
        }
        for (int e = 0; e < x.edges() && x.count(5) < 60; e++) {
            if (x.edge(e, 2) == 1) {
                int wide = once(50) ? 2000000000 : 0;
                call("tell", x.shares(e) + (once(3) ? far : 0) - (once(30) ? 1 : 0) + wide);
            }
        }
        if (once(15)) {
            call("tell", 5);
        }
        call("check");
        call("check");
    }

    private void askRest() {
        for (int i = 0; i < 40; i++) {
            switch (from(0, 17)) {
                case 0: call("sheet", near(0, 3), near(-1, 3), near(0, 32)); break;
                case 1: call("sheet", near(0, 3), near(0, 1), near(0, 6)); break;
                case 2: call("mark", near(0, 3), near(0, 8), chance.nextInt()); break;
                case 3: call("mark", near(0, 3), near(0, 4), from(-300, 70000)); break;
                case 4: call("pour", near(0, 3), near(0, 4), near(0, 31), near(0, 5)); break;
                case 5: call("copy", near(0, 3), near(0, 4), near(0, 3), near(0, 4), near(0, 5)); break;
                case 6: call("lay", near(0, 5), near(0, 3), near(0, 4)); break;
                case 7: call("ask", near(0, 5), near(0, 7)); break;
                case 8: call("ask", near(0, 5), 0); break;
                case 9: call("item", near(0, 5), near(0, 7)); break;
                case 10: call("memory", near(0, 31), from(-5, 40)); break;
                case 11: call("lock", near(0, 15), near(0, 1)); break;
                case 12: call("work", near(1, once(3) ? 9999 : 9), near(1, once(3) ? 9999 : 60)); break;
                case 13: call("answer", near(0, 7)); break;
                case 14: call("fits"); break;
                case 15: call("count", near(0, 6)); break;
                case 16: call(once(3) ? "back" : "keep"); break;
                default: call("turns", near(0, x.edges() - 1), once(6) ? Model.NONE : near(0, 9)); break;
            }
        }
        for (int what = -1; what <= 7; what++) {
            call("count", what);
        }
    }

    private void oddOrders() {
        for (int i = 0; i < 12; i++) {
            call("order", near(0, 7), near(0, 3), near(0, 4), near(-999, 999));
            call("order", near(3, 4), near(0, 3), near(0, 28), near(0, 0));
            call("order", near(5, 7), near(0, 3), near(0, 3), near(0, 3));
            call("places", near(0, 28), once(2) ? chance.nextInt() : 1 << from(0, 30));
        }
    }

    /** Many lines, few ways: what the cache lets go, and what is locked best, is seen best here. */
    private void loads(boolean locks) {
        tellMachine(true);
        tellText(part(0) + " " + part(2) + " ways " + (once(3) ? 2 : 4));
        call("machine");
        int many = from(6, 24);
        int far = from(4, 19);
        for (int k = 0; k < many; k++) {
            boolean branch = once(6);
            call("order", branch ? 3 : from(1, 2), from(0, 3), branch ? from(0, many) : once(12) ? from(0, 3) : 4,
                    branch ? 2 : from(0, far));
        }
        for (int e = 0; e < x.edges(); e++) {
            if (x.edge(e, 2) == 1) {
                call("turns", e, from(0, 2));
            }
        }
        for (int i = 0; i < 3; i++) {
            call("memory", from(0, far), from(0, 4));
            call("run", from(0, 3));
            for (int what = 0; what <= 12; what++) {
                call("ran", what);
            }
            for (int step = 0; step <= Math.min(80, x.ran(1)); step++) {
                call("step", step, 1);
            }
        }
        for (int k = 0; k < many; k++) {
            call("told", k, 7);
            for (int line = 0; line <= far / 2; line++) {
                call("age", k, line);
            }
        }
        neverLater();
        for (int k = 0; locks && k <= 8; k++) {
            call("locks", k, 0);
            call("locks", k, 1);
        }
    }

    private void all() {
        for (int round = 0; round < 3; round++) {
            if (!once(4)) {
                tellMachine(once(2));
            }
            if (!once(3)) {
                call("clear");
            }
            tellOrders(once(12) ? 28 : from(0, 9), !once(4));
            if (once(9)) {
                oddOrders();
            }
            tellNumbers();
            for (int i = from(0, 4); i > 0; i--) {
                call("lock", from(0, 9), from(0, 1));
            }
            askRuns();
            askProgram();
            askBounds();
            askCheck();
            askRest();
            askBounds();
            if (once(2)) {
                call("back");
                call("ran", 0);
                askBounds();
                askProgram();
            }
        }
    }

    public static void main(String[] args) {
        int runs = args.length > 1 ? Integer.parseInt(args[1]) : RUNS;
        int first = args.length > 2 ? Integer.parseInt(args[2]) : 0;
        for (int seed = first; seed < first + runs; seed++) {
            new ModelTest(seed).all();
            new ModelTest(seed).loads(seed % 50 == 0);
        }
        System.out.println(calls + " calls, " + wrong + " answers are not the model's");
        if (wrong != 0) {
            System.exit(1);
        }
    }
}
