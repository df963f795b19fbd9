import java.lang.reflect.InvocationTargetException;
import java.lang.reflect.Method;
import java.util.ArrayList;
import java.util.Arrays;
import java.util.Comparator;
import java.util.List;

/**
 * What the tests by sentence share. Each test is a method named by the promise's number (p07_...), has a new object, and
 * holds one sentence of the document, most often one that names a boundary.
 */
abstract class Sentences {
    static final int BAD = -1000000001, NO = -1000000002, FULL = -1000000003, SPENT = -1000000004,
            NONE = -1000000005, NOTHING = -1000000011, KIND = -1000000012, INDEX = -1000000013, SIZE = -1000000014;
    static final int ORDER = 0, LOAD = 1, STORE = 2, BRANCH = 3, CALL = 4, LONG = 5, PARTS = 6, BACK = 7;
    static final int LOW = Integer.MIN_VALUE, HIGH = Integer.MAX_VALUE;
    /** Bits of all places that can be told. */
    static final int ALL_PLACES = (1 << 29) - 1;

    interface Call {
        int on(TickBound y);
    }

    private static int answers = 0;
    private static int wrong = 0;
    private static String test = "";

    TickBound x = new TickBound();

    // ---- answers

    static void due(int want, int got) {
        answers++;
        if (want != got) {
            StackTraceElement[] stack = Thread.currentThread().getStackTrace();
            fail("line " + lineOf(stack) + ": answered " + got + ", due is " + want);
        }
    }

    static void due(String want, String got) {
        answers++;
        if (!want.equals(got)) {
            fail("line " + lineOf(Thread.currentThread().getStackTrace()) + ": answered " + got + ", due is " + want);
        }
    }

    private static void fail(String what) {
        wrong++;
        System.out.println(test + ", " + what);
    }

    /** The line of the test itself, not of a helper here. */
    private static int lineOf(StackTraceElement[] stack) {
        for (StackTraceElement e : stack) {
            if (e.getMethodName().equals(test)) {
                return e.getLineNumber();
            }
        }
        return stack[2].getLineNumber();
    }

    static void runAll(Class<? extends Sentences> tests, int firstPromise, int lastPromise) throws Exception {
        Method[] methods = tests.getDeclaredMethods();
        Arrays.sort(methods, Comparator.comparing(Method::getName));
        int many = 0;
        boolean[] seen = new boolean[47];
        for (Method m : methods) {
            if (!m.getName().matches("p\\d\\d_\\w+")) {
                continue;
            }
            test = m.getName();
            seen[Integer.parseInt(test.substring(1, 3))] = true;
            many++;
            try {
                m.invoke(tests.getDeclaredConstructor().newInstance());
            } catch (InvocationTargetException e) {
                fail("threw " + e.getCause());
                e.getCause().printStackTrace(System.out);
            }
        }
        for (int promise = firstPromise; promise <= lastPromise; promise++) {
            if (!seen[promise]) {
                wrong++;
                System.out.println("promise " + promise + " has no test");
            }
        }
        System.out.println("promises " + firstPromise + " to " + lastPromise + ": " + many + " sentences, " + answers
                + " answers, " + wrong + " are not as due");
        if (wrong != 0) {
            System.exit(1);
        }
    }

    // ---- telling

    void fresh() {
        x = new TickBound();
    }

    /** The text comes behind what the tape has; what pads it is trimmed off. */
    static void feedText(TickBound y, String text) {
        int had = y.count(6);
        StringBuilder padded = new StringBuilder(text);
        while (padded.length() % 12 != 0) {
            padded.append('#');
        }
        for (int i = 0; i < padded.length(); i += 12) {
            int[] v = new int[3];
            for (int j = 0; j < 12; j++) {
                v[j / 4] = v[j / 4] << 8 | padded.charAt(i + j) & 255;
            }
            y.feed(v[0], v[1], v[2]);
        }
        y.trim(had + text.length());
    }

    int machine(String text) {
        feedText(x, text);
        return x.machine();
    }

    static String blanks(int many) {
        return " ".repeat(many);
    }

    /** Orders in rows of four. */
    static void tellOrders(TickBound y, int... all) {
        for (int i = 0; i + 3 < all.length; i += 4) {
            y.order(all[i], all[i + 1], all[i + 2], all[i + 3]);
        }
    }

    void orders(int... all) {
        tellOrders(x, all);
    }

    void plainOrders(int many) {
        for (int i = 0; i < many; i++) {
            x.order(ORDER, 0, 0, 0);
        }
    }

    /** Register 1 counts up, and back to order 0 while it is below 3: edges 0 (on), 1 (the turn), 2 (to the end). */
    void loop() {
        fresh();
        orders(ORDER, 1, 1, 1, BRANCH, 1, 0, 3);
    }

    static void tellAll(TickBound y, int... all) {
        for (int v : all) {
            y.tell(v);
        }
    }

    /** A new object with a load of each line, one behind the other. */
    void loads(String text, int... lines) {
        fresh();
        if (!text.isEmpty()) {
            machine(text);
        }
        for (int line : lines) {
            x.order(LOAD, 1, 4, 2 * line);
        }
    }

    /** For each step of a run of loads alone whether it was a hit (h) or a miss (m). */
    String asked() {
        x.run(0);
        StringBuilder seen = new StringBuilder();
        int before = 0;
        for (int i = 0; i < x.ran(1); i++) {
            int ticks = x.step(i, 1);
            seen.append(ticks - before == 1 ? 'h' : ticks - before == 1 + x.is(3) ? 'm' : '?');
            before = ticks;
        }
        return seen.toString();
    }

    /** The same calls on a new object of loads, as asked() tells them. */
    String asked(String text, int... lines) {
        loads(text, lines);
        return asked();
    }

    // ---- an object with something of everything, and all that can be seen of it

    /** Some 75 calls. Its tape, its numbers that wait (steps of its run), its image and its run are there, too. */
    static TickBound rich() {
        TickBound y = new TickBound();
        feedText(y, "miss 5 stall 4");
        y.machine();
        tellOrders(y, LONG, 1, 0, 0, BRANCH, 1, 0, 5);
        y.turns(1, 7);
        y.lock(9, 1);
        y.memory(4, 44);
        y.work(7, 70);
        y.keep();
        y.clear();
        feedText(y, "sets 2 ways 2 rule tree miss 20 wrong 4 guess last stall 2 long 3");
        y.machine();
        tellOrders(y, LOAD, 1, 4, 0, ORDER, 3, 3, 1, STORE, 3, 4, 6, BRANCH, 3, 0, 3, LOAD, 2, 0, 3, CALL, 1, 8, 0,
                PARTS, 2, 2, 3, BRANCH, 1, 9, 9, BACK, 1, 0, 0);
        y.places(8, 1 << 6);
        y.turns(3, 4);
        y.turns(10, 1);
        y.lock(3, 1);
        y.memory(5, 50);
        y.memory(31, LOW);
        y.work(3, 10);
        y.sheet(0, 2, 4);
        y.sheet(1, 0, 3);
        y.sheet(2, 3, 2);
        y.mark(0, 0, HIGH);
        y.mark(0, 3, -3);
        y.mark(1, 2, 200);
        y.mark(2, 1, LOW);
        y.lay(0, 1, 0);
        y.lay(1, 2, 0);
        y.lay(2, 3, 33);
        y.lay(3, 2, 2);
        y.run(2);
        for (int i = 0; i < 4; i++) {
            y.tell(y.step(i, 0));
            y.tell(y.step(i, 1));
        }
        feedText(y, "miss 30 wrong 2");
        return y;
    }

    static final int VIEWS = 9;

    /** One of the ways to read an object; what is read may change it, so each view wants one of its own. */
    static List<Integer> view(TickBound y, int view) {
        List<Integer> seen = new ArrayList<>();
        switch (view) {
            case 0: viewNumbers(y, seen); break;
            case 1: viewOrders(y, seen); break;
            case 2: viewCache(y, seen); break;
            case 3: viewBounds(y, seen); break;
            case 4: viewSheets(y, seen); break;
            case 5: viewSlots(y, seen); break;
            case 6: viewWaiting(y, seen); break;
            case 7: viewTape(y, seen); break;
            default: viewImage(y, seen); break;
        }
        return seen;
    }

    private static void viewNumbers(TickBound y, List<Integer> seen) {
        for (int i = 0; i <= 12; i++) {
            seen.add(y.ran(i));
            seen.add(y.count(i));
            seen.add(y.is(i));
            seen.add(y.answer(i));
        }
        for (int i = 0; i < 30; i++) {
            seen.add(y.step(i, 0));
            seen.add(y.step(i, 1));
        }
        for (int i = 0; i < 32; i++) {
            seen.add(y.memory(i, 0));
            seen.add(y.lock(i, 0));
        }
        seen.add(y.fits());
    }

    private static void viewOrders(TickBound y, List<Integer> seen) {
        for (int k = 0; k < y.count(0) && k < 12; k++) {
            for (int what = 0; what < 8; what++) {
                seen.add(y.told(k, what));
            }
        }
        seen.add(y.edges());
        for (int e = 0; e < y.edges() && e < 20; e++) {
            for (int what = 0; what < 5; what++) {
                seen.add(y.edge(e, what));
            }
        }
        seen.add(y.blocks());
        for (int b = 0; b < 12; b++) {
            seen.add(y.block(b, 0));
            seen.add(y.block(b, 1));
        }
    }

    private static void viewCache(TickBound y, List<Integer> seen) {
        for (int k = 0; k < 12; k++) {
            for (int line = 0; line < 16; line++) {
                seen.add(y.age(k, line));
                seen.add(y.may(k, line));
            }
        }
    }

    private static void viewBounds(TickBound y, List<Integer> seen) {
        seen.add(y.bound());
        for (int i = 0; i < 60; i++) {
            seen.add(y.way(i));
        }
        for (int i = 0; i < 20; i++) {
            seen.add(y.factor(i));
            seen.add(y.shares(i));
        }
        seen.add(y.proves());
        seen.add(y.locks(2, 0));
        seen.add(y.locks(2, 1));
        seen.add(y.shared(3, 3));
        seen.add(y.shown(3, 0));
        seen.add(y.shown(3, 1));
    }

    private static void viewSheets(TickBound y, List<Integer> seen) {
        for (int s = 0; s < 4; s++) {
            for (int i = 0; i < 33; i++) {
                seen.add(y.copy(s, i, s, i, 1));
            }
            for (int t = 0; t < 4; t++) {
                seen.add(y.copy(s, 0, t, 0, 0));
            }
            for (int i = 0; i < 5; i++) {
                y.pour(s, i, i, 1);
                seen.add(y.memory(i, 0));
            }
        }
    }

    private static void viewSlots(TickBound y, List<Integer> seen) {
        for (int s = 0; s < 6; s++) {
            for (int i = 0; i < 8; i++) {
                seen.add(y.ask(s, i));
                seen.add(y.item(s, i));
            }
            seen.add(y.lay(s, 0, 0));
        }
    }

    /** The numbers are steps of the run: that all of them still are, and how many, tells that they stayed. */
    private static void viewWaiting(TickBound y, List<Integer> seen) {
        seen.add(y.count(5));
        seen.add(y.tell(HIGH));
        seen.add(y.record());
        seen.add(y.count(5));
    }

    private static void viewTape(TickBound y, List<Integer> seen) {
        seen.add(y.count(6));
        seen.add(y.machine());
        for (int i = 0; i < 9; i++) {
            seen.add(y.is(i));
        }
    }

    private static void viewImage(TickBound y, List<Integer> seen) {
        seen.add(y.back());
        viewNumbers(y, seen);
        viewOrders(y, seen);
    }

    /** A call on the rich object is refused so, and nothing that can be seen is otherwise than without it. */
    static void refused(int want, Call call) {
        refused(Sentences::rich, want, call);
    }

    interface Maker {
        TickBound make();
    }

    static void refused(Maker maker, int want, Call call) {
        same(maker, y -> want, maker, call);
    }

    /** Two objects answer the same, and all that can be seen of them then is the same. */
    static void same(Maker one, Call first, Maker two, Call second) {
        for (int view = 0; view < VIEWS; view++) {
            TickBound y = one.make();
            TickBound z = two.make();
            due(first.on(y), second.on(z));
            due(view(y, view).toString(), view(z, view).toString());
        }
    }
}
