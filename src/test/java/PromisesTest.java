/** For each promise of the document some calls, edges and wrong inputs, with answers found by hand. */
public final class PromisesTest {
    private static final int BAD = -1000000001, NO = -1000000002, FULL = -1000000003, SPENT = -1000000004,
            NONE = -1000000005, NOTHING = -1000000011, KIND = -1000000012, INDEX = -1000000013, SIZE = -1000000014;
    private static final int ORDER = 0, LOAD = 1, STORE = 2, BRANCH = 3, CALL = 4, LONG = 5, PARTS = 6, BACK = 7;
    private static final int LOW = Integer.MIN_VALUE, HIGH = Integer.MAX_VALUE;

    private static int promise = 0;
    private static int wrong = 0;
    private static int checks = 0;
    private static TickBound x = new TickBound();

    private static void due(int want, int got) {
        checks++;
        if (got != want) {
            wrong++;
            StackTraceElement at = Thread.currentThread().getStackTrace()[2];
            System.out.println("promise " + promise + ", line " + at.getLineNumber() + ": answered " + got
                    + ", due is " + want);
        }
    }

    private static void fresh() {
        x = new TickBound();
    }

    private static void feedText(String text) {
        StringBuilder padded = new StringBuilder(text);
        while (padded.length() % 12 != 0) {
            padded.append('#');
        }
        for (int i = 0; i < padded.length(); i += 12) {
            int[] v = new int[3];
            for (int j = 0; j < 12; j++) {
                v[j / 4] = v[j / 4] << 8 | padded.charAt(i + j) & 255;
            }
            x.feed(v[0], v[1], v[2]);
        }
        x.trim(text.length());
    }

    private static int machine(String text) {
        feedText(text);
        return x.machine();
    }

    private static void load(int a, int address) {
        x.order(LOAD, a, 4, address);
    }

    /** Two orders: register 1 counts up, and back to order 0 while it is below 3. */
    private static void loop() {
        fresh();
        x.order(ORDER, 1, 1, 1);
        x.order(BRANCH, 1, 0, 3);
    }

    private static void newObject() {
        fresh();
        int[] first = {1, 2, 0, 10, 3, 0, 1, 2, 2};
        for (int i = 0; i < first.length; i++) {
            due(first[i], x.is(i));
        }
        for (int i = 0; i < 7; i++) {
            due(0, x.count(i));
        }
        for (int i = 0; i < 32; i++) {
            due(0, x.memory(i, 0));
        }
        due(0, x.edges());
        due(0, x.blocks());
        due(0, x.bound());
        due(0, x.proves());
        due(-1, x.fits());
        due(NO, x.ran(0));
        due(NO, x.back());
        due(NOTHING, x.mark(0, 0, 0));
        due(NOTHING, x.ask(0, 0));
    }

    private static void feeds() {
        fresh();
        for (int i = 1; i <= 8; i++) {
            due(12 * i, x.feed(0, 0, 0));
        }
        due(FULL, x.feed(0, 0, 0));
        due(96, x.count(6));
        due(85, x.trim(85));
        due(FULL, x.feed(0, 0, 0));
        due(85, x.count(6));
        due(84, x.trim(84));
        due(96, x.feed(0, 0, 0));
        fresh();
        x.feed(0x6d697373, 0x20313220, 0x80ff00aa);
        x.trim(7);
        due(1, x.machine());
        due(12, x.is(3));
    }

    private static void trims() {
        fresh();
        due(BAD, x.trim(1));
        due(0, x.trim(0));
        x.feed(1, 2, 3);
        due(BAD, x.trim(-1));
        due(BAD, x.trim(13));
        due(BAD, x.trim(HIGH));
        due(BAD, x.trim(LOW));
        due(12, x.trim(12));
        due(5, x.trim(5));
        due(BAD, x.trim(6));
        due(5, x.count(6));
        due(17, x.feed(1, 2, 3));
    }

    private static void machines() {
        fresh();
        due(8, machine("long 9 stall 0 guess always wrong 9 miss 99 rule turn ways 1 sets 4"));
        int[] now = {4, 1, 1, 99, 9, 1, 0, 9};
        for (int i = 0; i < 8; i++) {
            due(now[i], x.is(i));
        }
        due(0, x.count(6));
        due(1, machine("  rule   tree  "));
        due(2, x.is(2));
        due(1, machine("miss 007"));
        due(7, x.is(3));
        due(-100, machine(""));
        due(-103, machine("   "));
        due(-104, machine("sets"));
        due(-106, machine("sets  "));
        due(-105, machine("sets two"));
        due(-105, machine("sets ,"));
        due(-105, machine("miss 0007"));
        due(-104, machine("miss7"));
        due(-106, machine("miss 7wrong 3"));
        due(-107, machine("miss 7 miss 8"));
        due(-107, machine("miss 7 Wrong 8"));
        due(-100, machine("set 2"));
        due(-100, machine("setss 2"));
        due(-105, machine("rule 2"));
        due(-105, machine("rule lru"));
        due(-106, machine("guess ages"));
        due(-106, machine("sets 4\t"));
        due(-106, machine("sets 3;"));
        due(-107, machine("sets 3 sets 2"));
        due(NO, machine("sets 3"));
        due(NO, machine("sets 0"));
        due(NO, machine("ways 8"));
        due(NO, machine("miss 100"));
        due(NO, machine("wrong 10"));
        due(NO, machine("stall 10"));
        due(NO, machine("long 999"));
        due(NO, machine("miss 1 sets 3"));
        due(7, x.is(3));
        due(0, x.count(6));
    }

    private static void parts() {
        fresh();
        due(BAD, x.is(-1));
        due(BAD, x.is(9));
        due(BAD, x.is(HIGH));
        String[] rules = {"age", "turn", "tree"};
        int[][] remembers = {{1, 2, 4}, {1, 1, 1}, {1, 2, 3}};
        for (int rule = 0; rule < 3; rule++) {
            for (int ways = 0; ways < 3; ways++) {
                due(2, machine("rule " + rules[rule] + " ways " + (1 << ways)));
                due(rule, x.is(2));
                due(1 << ways, x.is(1));
                due(remembers[rule][ways], x.is(8));
            }
        }
    }

    private static void words() {
        fresh();
        due(0, x.memory(0, HIGH));
        due(HIGH, x.memory(0, LOW));
        due(LOW, x.memory(0, 1));
        due(0, x.memory(31, 5));
        due(BAD, x.memory(32, 1));
        due(BAD, x.memory(-1, 1));
        due(BAD, x.memory(LOW, 1));
        due(5, x.memory(31, 5));
        // A run leaves it as it was, and what it told stays when a word is told.
        x.order(STORE, 0, 4, 31);
        x.run(77);
        due(5, x.memory(31, 6));
        due(12, x.ran(0));
    }

    private static void lockings() {
        fresh();
        due(BAD, x.lock(-1, 1));
        due(BAD, x.lock(16, 1));
        due(BAD, x.lock(0, 2));
        due(BAD, x.lock(0, -1));
        due(0, x.lock(15, 1));
        due(1, x.lock(15, 1));
        due(1, x.count(3));
        due(1, x.lock(15, 0));
        due(0, x.lock(15, 0));
        due(0, x.count(3));
        // A locked line is a hit always and takes no place.
        machine("ways 1");
        load(1, 30);
        load(1, 4);
        load(1, 31);
        x.run(0);
        due(0, x.ran(2));
        due(3, x.ran(3));
        x.lock(2, 1);
        due(33, x.ran(0));
        x.run(0);
        due(2, x.ran(2));
        due(1, x.ran(3));
        due(13, x.ran(0));
    }

    private static void orders() {
        fresh();
        int[][] bad = {{-1, 0, 0, 0}, {8, 0, 0, 0}, {0, 4, 0, 0}, {0, -1, 0, 0}, {0, 0, 4, 0}, {0, 0, 0, 1000},
                {0, 0, 0, -1000}, {1, 0, 5, 0}, {1, 0, -1, 0}, {1, 0, 4, 32}, {1, 0, 4, -1}, {1, 0, 3, 1000},
                {2, 4, 0, 0}, {2, 0, 4, 32}, {2, 0, 5, 0}, {3, 0, 29, 0}, {3, 0, -1, 0}, {3, 0, 0, 1000}, {3, 4, 0, 0},
                {4, 0, 29, 0}, {4, 0, 0, 1}, {4, 0, -1, 0}, {5, 0, 4, 0}, {5, 0, 0, 4}, {5, 0, 0, -1}, {6, 0, 4, 0},
                {6, 4, 0, 0}, {6, 0, 0, 4}, {7, 0, 1, 0}, {7, 0, 0, 1}, {7, 4, 0, 0}, {LOW, 0, 0, 0}, {HIGH, 0, 0, 0}};
        for (int[] o : bad) {
            due(BAD, x.order(o[0], o[1], o[2], o[3]));
        }
        due(0, x.count(0));
        int[][] good = {{0, 3, 3, 999}, {0, 0, 0, -999}, {1, 3, 4, 31}, {1, 0, 4, 0}, {1, 0, 3, -999}, {2, 3, 0, 999},
                {2, 0, 4, 31}, {3, 3, 28, -999}, {3, 0, 0, 999}, {4, 3, 28, 0}, {5, 3, 3, 3}, {6, 3, 3, 3}, {7, 3, 0, 0}};
        for (int i = 0; i < good.length; i++) {
            due(i, x.order(good[i][0], good[i][1], good[i][2], good[i][3]));
        }
        for (int i = 0; i < good.length; i++) {
            for (int j = 0; j < 4; j++) {
                due(good[i][j], x.told(i, j));
            }
        }
        for (int i = good.length; i < 28; i++) {
            due(i, x.order(0, 0, 0, 0));
        }
        due(FULL, x.order(0, 0, 0, 0));
        due(BAD, x.order(0, 0, 4, 0));
        due(28, x.count(0));
        loop();
        x.turns(1, 2);
        due(BAD, x.order(8, 0, 0, 0));
        due(2, x.edge(1, 3));
        x.order(0, 0, 0, 0);
        due(NONE, x.edge(1, 3));
    }

    private static void clears() {
        loop();
        x.order(BACK, 0, 0, 0);
        x.places(2, 9);
        x.turns(1, 2);
        due(3, x.clear());
        due(0, x.count(0));
        due(0, x.clear());
        due(0, x.edges());
        x.order(BACK, 0, 0, 0);
        due(0, x.told(0, 4));
        due(0, x.edges());
        x.places(0, 3);
        x.run(0);
        x.clear();
        due(NO, x.ran(0));
        x.order(BACK, 0, 0, 0);
        due(0, x.told(0, 4));
        loop();
        x.turns(1, 2);
        due(15, x.bound());
        x.clear();
        due(0, x.bound());
    }

    private static void tellings() {
        fresh();
        machine("miss 20 wrong 4 long 3");
        x.order(ORDER, 0, 1, 2);
        x.order(LOAD, 0, 4, 5);
        x.order(STORE, 1, 4, 4);
        x.order(BRANCH, 2, 1, 9);
        x.order(CALL, 3, 6, 0);
        x.order(LONG, 1, 2, 3);
        x.order(PARTS, 3, 2, 1);
        x.order(BACK, 2, 0, 0);
        x.order(LOAD, 0, 1, 5);
        x.places(7, 0b1000000011);
        int[] cost = {1, 21, 2, 5, 2, 25, 27, 2, 21};
        int[] edges = {1, 1, 1, 2, 1, 1, 1, 3, 1};
        // Order 1 may find its line by the way round, order 2 finds it by order 1.
        int[] tells = {NONE, 2, 0, NONE, NONE, NONE, NONE, NONE, 2};
        for (int k = 0; k < 9; k++) {
            due(cost[k], x.told(k, 6));
            due(edges[k], x.told(k, 5));
            due(tells[k], x.told(k, 7));
        }
        due(0b1000000011, x.told(7, 4));
        due(0, x.told(3, 4));
        due(BAD, x.told(9, 0));
        due(BAD, x.told(-1, 0));
        due(BAD, x.told(0, -1));
        due(BAD, x.told(0, 8));
        fresh();
        load(0, 0);
        load(0, 2);
        due(1, x.told(0, 7));
        due(1, x.told(1, 7));
        x.lock(1, 1);
        due(0, x.told(1, 7));
        due(1, x.told(1, 6));
    }

    private static void kinds() {
        fresh();
        int[] above = {-1, 0, 1, 0, 3, 0, 5, 4};
        int[] c = {7, 6, 5, 4, 0, 3, 2, 0};
        x.order(ORDER, 0, 0, 7);
        x.order(LOAD, 0, 4, 6);
        x.order(STORE, 0, 4, 5);
        x.order(BRANCH, 0, 0, 4);
        x.order(CALL, 0, 0, 0);
        x.order(LONG, 0, 0, 3);
        x.order(PARTS, 0, 0, 2);
        x.order(BACK, 0, 0, 0);
        for (int k = 0; k < 8; k++) {
            for (int kind = 0; kind < 8; kind++) {
                boolean under = false;
                for (int i = k; i >= 0; i = above[i]) {
                    under |= i == kind;
                }
                due(under ? c[k] : KIND, x.as(k, kind));
            }
        }
        due(BAD, x.as(8, 0));
        due(BAD, x.as(-1, 0));
        due(BAD, x.as(0, 8));
        due(BAD, x.as(0, -1));
        due(BAD, x.as(LOW, HIGH));
    }

    private static void toldPlaces() {
        fresh();
        x.order(ORDER, 0, 0, 0);
        x.order(BACK, 0, 0, 0);
        due(KIND, x.places(0, 1));
        due(BAD, x.places(0, -1));
        due(BAD, x.places(2, 1));
        due(BAD, x.places(-1, 1));
        due(BAD, x.places(1, 1 << 29));
        due(BAD, x.places(1, LOW));
        due(0, x.places(1, 0x1fffffff));
        due(4, x.edges());
        x.turns(1, 3);
        due(3, x.edge(1, 3));
        due(BAD, x.places(1, -1));
        due(3, x.edge(1, 3));
        due(0x1fffffff, x.places(1, 0));
        due(1, x.edges());
        due(0, x.places(1, 1));
        due(NONE, x.edge(1, 3));
        x.run(0);
        due(4, x.ran(12));
        due(KIND, x.places(0, 1));
        due(4, x.ran(12));
        due(1, x.places(1, 1));
        due(NO, x.ran(12));
    }

    private static void runs() {
        fresh();
        due(0, x.run(3));
        due(0, x.ran(11));
        // The end, by a branch beyond.
        x.order(BRANCH, 0, 20, 5);
        due(0, x.run(4));
        due(1, x.ran(11));
        due(4, x.ran(0));
        due(0, x.run(5));
        due(1, x.ran(0));
        // Zero, beyond, stray: 1 tick alone, also behind a load that it waits for.
        fresh();
        load(1, 0);
        x.order(PARTS, 0, 0, 1);
        due(1, x.run(9));
        due(12, x.ran(0));
        due(0, x.ran(5));
        due(9, x.ran(6));
        x.clear();
        load(1, 0);
        x.order(LOAD, 0, 1, 32);
        due(2, x.run(9));
        due(12, x.ran(0));
        due(1, x.ran(3));
        x.clear();
        load(1, 0);
        x.order(STORE, 1, 1, -1);
        due(2, x.run(9));
        x.clear();
        x.order(BACK, 0, 0, 0);
        x.places(0, 0b10);
        due(3, x.run(0));
        due(1, x.ran(0));
        due(3, x.run(-1));
        due(3, x.run(29));
        due(3, x.run(LOW));
        due(0, x.run(1));
        due(2, x.ran(0));
        // Endless: 600 orders; the end behind just 600 is an end.
        x.clear();
        x.order(CALL, 1, 0, 0);
        due(4, x.run(0));
        due(600, x.ran(1));
        due(1200, x.ran(0));
        due(0, x.ran(11));
        x.clear();
        x.order(ORDER, 0, 0, 1);
        x.order(BRANCH, 0, 0, 300);
        due(0, x.run(0));
        due(600, x.ran(1));
        due(4, x.run(-1));
        due(600, x.ran(1));
        due(0, x.ran(11));
        // Ints wrap, and cut towards 0.
        x.clear();
        x.order(ORDER, 1, 1, -1);
        x.order(PARTS, 2, 0, 1);
        x.order(LONG, 3, 0, 0);
        x.order(ORDER, 0, 0, -1);
        due(0, x.run(LOW));
        due(HIGH, x.ran(6));
        due(LOW, x.ran(8));
        due(0, x.ran(9));
        x.run(7);
        due(-7, x.ran(8));
        due(49, x.ran(9));
    }

    private static void calls() {
        fresh();
        x.order(CALL, 1, 2, 0);
        x.order(CALL, 2, 3, 0);
        x.order(BACK, 1, 0, 0);
        x.places(2, 2);
        due(0, x.run(0));
        due(1, x.ran(7));
        due(2, x.ran(8));
        due(6, x.ran(0));
        int[] order = {0, 2, 1};
        for (int i = 0; i < 3; i++) {
            due(order[i], x.step(i, 0));
        }
    }

    /** Every kind behind a load of each register: only those that it reads are waited for. */
    private static void stalls() {
        int[][] behind = {{ORDER, 0, 1, 2}, {LOAD, 0, 1, 2}, {LOAD, 0, 4, 2}, {STORE, 0, 1, 2}, {STORE, 0, 4, 2},
                {BRANCH, 0, 2, 3}, {CALL, 0, 2, 0}, {BACK, 0, 0, 0}, {LONG, 0, 1, 2}, {PARTS, 0, 1, 2}};
        int[] reads = {0b10, 0b10, 0, 0b11, 0b1, 0b1, 0, 0b1, 0b110, 0b110};
        for (int i = 0; i < behind.length; i++) {
            for (int register = 0; register < 4; register++) {
                fresh();
                machine("stall 5 miss 0");
                x.memory(0, 2);
                load(register, 0);
                x.order(behind[i][0], behind[i][1], behind[i][2], behind[i][3]);
                int stall = reads[i] >> register & 1;
                due(1 + 5 * stall, x.edge(0, 4));
                if (behind[i][0] == BACK) {
                    x.places(1, 7);
                }
                // By 2 in register 2, so that nothing is parted by 0 but by what a load brought.
                x.run(2);
                if (behind[i][0] != PARTS || register == 2) {
                    due(stall, x.ran(5));
                }
            }
        }
    }

    private static void cacheRules() {
        // Lines 0 1 0 2 0 in two places: by age 0 stays, by turn it goes.
        String[] rules = {"rule age ways 2", "rule turn ways 2", "rule tree ways 2", "rule age ways 1", "rule age ways 4"};
        int[] hits = {2, 1, 2, 0, 2};
        for (int i = 0; i < rules.length; i++) {
            fresh();
            machine(rules[i]);
            int[] lines = {0, 1, 0, 2, 0};
            for (int line : lines) {
                load(1, 2 * line + 1);
            }
            x.run(0);
            due(hits[i], x.ran(2));
            due(5 - hits[i], x.ran(3));
        }
        // Tree of 4: asking 0 again turns the bits to place 2, so that 2 goes for 4, then 1 for 2, and 3 for 1.
        fresh();
        machine("rule tree ways 4 miss 1");
        int[] lines = {0, 1, 2, 3, 0, 4, 2, 1, 3};
        int[] ticks = {2, 2, 2, 2, 1, 2, 2, 2, 2};
        for (int line : lines) {
            load(1, 2 * line);
        }
        x.run(0);
        int sum = 0;
        for (int i = 0; i < ticks.length; i++) {
            sum += ticks[i];
            due(sum, x.step(i, 1));
        }
        // Each run begins with an empty cache and all bits 0.
        x.run(0);
        due(sum, x.ran(0));
        due(1, x.ran(2));
        due(8, x.ran(3));
        // By age and by turn in the second of two sets.
        for (int rule = 0; rule < 2; rule++) {
            fresh();
            machine(rule == 0 ? "sets 2 ways 2" : "sets 2 ways 2 rule turn");
            for (int line : new int[] {0, 2, 1, 3, 1, 5, 1, 3}) {
                load(1, 2 * line);
            }
            x.run(0);
            due(rule == 0 ? 2 : 1, x.ran(2));
            due(rule == 0 ? 68 : 78, x.ran(0));
        }
        // Sets: 0 and 2 share one, 1 has the other.
        fresh();
        machine("sets 2 ways 1");
        for (int line : new int[] {0, 1, 2, 1, 0}) {
            load(1, 2 * line);
        }
        x.run(0);
        due(1, x.ran(2));
        // A store asks as a load does.
        fresh();
        x.order(STORE, 1, 4, 6);
        load(1, 7);
        x.run(0);
        due(1, x.ran(2));
        due(13, x.ran(0));
    }

    private static void rans() {
        fresh();
        due(BAD, x.ran(-1));
        due(BAD, x.ran(13));
        due(NO, x.ran(12));
        machine("guess last wrong 5 stall 4 long 3 miss 7");
        x.memory(0, 0x1ff);
        load(1, 0);
        x.order(LONG, 2, 0, 1);
        x.order(PARTS, 3, 2, 0);
        x.order(STORE, 3, 4, 1);
        x.order(LOAD, 3, 4, 1);
        x.order(STORE, 3, 4, 1);
        x.order(BRANCH, 0, 8, 9);
        x.order(ORDER, 0, 0, 0);
        due(0, x.run(6));
        // 8, then 1 + 4 + 3 * 8, then 3 + 3 * 2, then 2, 1, 2 + 4, 1 + 5
        due(8, x.step(0, 1));
        due(37, x.step(1, 1));
        due(46, x.step(2, 1));
        due(48, x.step(3, 1));
        due(49, x.step(4, 1));
        due(55, x.step(5, 1));
        due(61, x.step(6, 1));
        int[] all = {61, 7, 3, 1, 1, 2, 6, 0x1ff, 6 * 0x1ff, 0x1ff, 1, 8, 0};
        for (int i = 0; i < all.length; i++) {
            due(all[i], x.ran(i));
        }
        x.run(9);
        due(8, x.ran(1));
        due(0, x.ran(4));
        // What is told of it goes with orders, places, a machine, an image; not with what is refused, nor with the rest.
        machine("miss");
        x.order(9, 0, 0, 0);
        x.keep();
        x.lock(0, 1);
        x.shown(1, 0);
        x.bound();
        due(8, x.ran(1));
        machine("miss 7");
        due(NO, x.ran(1));
        due(NO, x.step(0, 0));
        x.run(9);
        x.back();
        due(NO, x.ran(1));
        x.run(9);
        x.order(ORDER, 0, 0, 0);
        due(NO, x.ran(1));
        // Kept by the numbers as they were then.
        loop();
        x.run(0);
        due(1, x.ran(10));
        x.turns(1, 1);
        due(1, x.ran(10));
        x.run(0);
        due(0, x.ran(10));
        x.turns(1, NONE);
        due(0, x.ran(10));
        // A turn to its own order, which is edge 0.
        fresh();
        x.order(BRANCH, 0, 0, 1);
        x.turns(0, 0);
        x.run(1);
        due(1, x.ran(10));
        x.run(0);
        due(0, x.ran(10));
        // As it went last in this run: taken four times, then on; the next run begins with on.
        fresh();
        machine("guess last");
        x.order(ORDER, 0, 0, 1);
        x.order(BRANCH, 0, 0, 5);
        for (int i = 0; i < 2; i++) {
            x.run(0);
            due(2, x.ran(4));
        }
        x.run(9);
        due(0, x.ran(4));
        // Each branch has a last of its own; behind taken and on it is on.
        fresh();
        machine("guess last");
        x.order(ORDER, 1, 1, 1);
        x.order(BRANCH, 1, 3, 2);
        x.order(ORDER, 0, 0, 0);
        x.order(BRANCH, 1, 0, 4);
        x.run(0);
        // The first: wrong, wrong, right, right; the second: wrong, right, right, wrong.
        due(4, x.ran(4));
        loop();
        // Guesses: taken twice, then on.
        int[] wrongs = {2, 1, 2};
        String[] guesses = {"never", "always", "last"};
        for (int i = 0; i < 3; i++) {
            machine("guess " + guesses[i]);
            x.run(0);
            due(wrongs[i], x.ran(4));
            due(6 + 3 * wrongs[i], x.ran(0));
        }
    }

    private static void steps() {
        loop();
        due(NO, x.step(0, 0));
        due(BAD, x.step(-1, 0));
        due(BAD, x.step(0, 2));
        due(BAD, x.step(0, -1));
        x.run(0);
        int[] order = {0, 1, 0, 1, 0, 1};
        int[] ticks = {1, 5, 6, 10, 11, 12};
        for (int i = 0; i < 6; i++) {
            due(order[i], x.step(i, 0));
            due(ticks[i], x.step(i, 1));
        }
        due(NONE, x.step(6, 0));
        due(NONE, x.step(HIGH, 1));
        due(BAD, x.step(LOW, 1));
    }

    private static void showns() {
        fresh();
        due(0, x.shown(0, 0));
        due(0, x.shown(7, 1));
        due(BAD, x.shown(-1, 0));
        due(BAD, x.shown(8, 0));
        due(BAD, x.shown(1, 2));
        due(BAD, x.shown(1, -1));
        // Inputs below 5 are guessed wrong, so that 0 is the least of the costliest.
        x.order(BRANCH, 0, 2, 5);
        x.order(ORDER, 0, 0, 0);
        due(4, x.shown(3, 0));
        due(0, x.shown(3, 1));
        // Now ticks hang on the input: 4 + 2 * 5 of 3, 1 + 1 + 2 * 7 of 7.
        x.order(LONG, 1, 0, 0);
        x.order(LONG, 1, 0, 0);
        due(14, x.shown(2, 0));
        due(3, x.shown(2, 1));
        due(16, x.shown(3, 0));
        due(7, x.shown(3, 1));
        due(32, x.shown(7, 0));
        due(127, x.shown(7, 1));
        // No further than 2 to the power of n, less 1.
        due(0, x.shown(0, 1));
        due(4 + 2 * 3, x.shown(1, 0));
        due(1, x.shown(1, 1));
        x.run(1);
        int was = x.ran(0);
        x.shown(7, 0);
        due(was, x.ran(0));
        // Only those that end and are kept.
        fresh();
        x.order(BRANCH, 0, 0, 3);
        due(NONE, x.shown(1, 0));
        due(NONE, x.shown(1, 1));
        due(3, x.shown(2, 1));
        loop();
        x.turns(1, 1);
        due(NONE, x.shown(3, 0));
        x.turns(1, 2);
        due(12, x.shown(3, 0));
        due(0, x.shown(3, 1));
    }

    private static void edgesOf() {
        fresh();
        due(0, x.edges());
        x.order(BRANCH, 0, 1, 0);
        due(1, x.edges());
        x.order(BRANCH, 0, 0, 0);
        due(3, x.edges());
        x.order(CALL, 0, 9, 0);
        due(4, x.edges());
        x.order(BACK, 0, 0, 0);
        due(4, x.edges());
        x.places(3, 0b11111);
        due(9, x.edges());
        x.places(3, 0x1ffffff0);
        due(5, x.edges());
        x.order(BRANCH, 0, 28, 0);
        due(7, x.edges());
    }

    private static void edgeOf() {
        fresh();
        x.order(BRANCH, 1, 2, 0);
        load(1, 0);
        x.order(BRANCH, 1, 0, 0);
        x.order(BACK, 0, 0, 0);
        x.places(3, 0b10001);
        int[][] all = {{0, 1, 0, NONE, 4}, {0, 2, 0, NONE, 4}, {1, 2, 0, NONE, 12}, {2, 0, 1, NONE, 4},
                {2, 3, 0, NONE, 4}, {3, 0, 1, NONE, 2}, {3, 4, 0, NONE, 2}};
        due(all.length, x.edges());
        for (int e = 0; e < all.length; e++) {
            for (int what = 0; what < 5; what++) {
                due(all[e][what], x.edge(e, what));
            }
        }
        due(BAD, x.edge(7, 0));
        due(BAD, x.edge(-1, 0));
        due(BAD, x.edge(0, 5));
        due(BAD, x.edge(0, -1));
        x.turns(3, 9);
        due(9, x.edge(3, 3));
        // A store is nothing to wait behind, the end reads nothing.
        fresh();
        x.order(STORE, 1, 4, 0);
        load(1, 0);
        due(12, x.edge(0, 4));
        due(1, x.edge(1, 4));
        // To its own order: a turn.
        fresh();
        x.order(BRANCH, 0, 0, 1);
        due(1, x.edge(0, 2));
        due(0, x.edge(1, 2));
    }

    private static void numbers() {
        loop();
        due(BAD, x.turns(-1, 1));
        due(BAD, x.turns(3, 1));
        due(BAD, x.turns(1, 10));
        due(BAD, x.turns(1, -1));
        due(BAD, x.turns(0, 10));
        due(KIND, x.turns(0, 1));
        due(KIND, x.turns(2, NONE));
        due(NONE, x.turns(1, NONE));
        due(NONE, x.turns(1, 0));
        due(0, x.turns(1, 9));
        due(9, x.turns(1, NONE));
        due(NONE, x.turns(1, 4));
        due(4, x.edge(1, 3));
        machine("miss 5");
        due(4, x.edge(1, 3));
    }

    private static void blocksOf() {
        fresh();
        due(0, x.blocks());
        x.order(ORDER, 0, 0, 0);
        x.order(ORDER, 0, 0, 0);
        due(1, x.blocks());
        // Order 2 leads to 1 and itself is led to by 1 alone; behind it a new block begins.
        x.order(BRANCH, 0, 1, 0);
        due(2, x.blocks());
        x.order(ORDER, 0, 0, 0);
        due(3, x.blocks());
        x.order(CALL, 0, 4, 0);
        due(4, x.blocks());
        x.order(BACK, 0, 0, 0);
        due(5, x.blocks());
        // By edge 0 alone.
        fresh();
        x.order(CALL, 0, 2, 0);
        x.order(ORDER, 0, 0, 0);
        x.order(ORDER, 0, 0, 0);
        due(3, x.blocks());
    }

    private static void blockOf() {
        fresh();
        due(BAD, x.block(0, 0));
        x.order(ORDER, 0, 0, 0);
        x.order(ORDER, 0, 0, 0);
        x.order(BRANCH, 0, 1, 0);
        x.order(ORDER, 0, 0, 0);
        x.order(BRANCH, 0, 4, 0);
        x.order(ORDER, 0, 0, 0);
        int[][] all = {{0, 0}, {1, 2}, {3, 3}, {4, 4}, {5, 5}};
        due(all.length, x.blocks());
        for (int b = 0; b < all.length; b++) {
            due(all[b][0], x.block(b, 0));
            due(all[b][1], x.block(b, 1));
        }
        due(BAD, x.block(5, 0));
        due(BAD, x.block(-1, 0));
        due(BAD, x.block(0, 2));
        due(BAD, x.block(0, -1));
        due(BAD, x.block(HIGH, 1));
    }

    private static void ages() {
        fresh();
        due(BAD, x.age(0, 0));
        machine("ways 4");
        load(0, 0);
        load(0, 2);
        load(0, 4);
        load(0, 2);
        x.order(LOAD, 0, 1, 0);
        x.order(ORDER, 0, 0, 0);
        int[][] due = {{NONE, NONE, NONE}, {0, NONE, NONE}, {1, 0, NONE}, {2, 1, 0}, {2, 0, 1}, {3, 1, 2}};
        for (int k = 0; k < 6; k++) {
            for (int line = 0; line < 3; line++) {
                due(due[k][line], x.age(k, line));
            }
        }
        due(BAD, x.age(6, 0));
        due(BAD, x.age(-1, 0));
        due(BAD, x.age(0, 16));
        due(BAD, x.age(0, -1));
        machine("ways 2");
        due(NONE, x.age(3, 0));
        due(NONE, x.age(5, 0));
        due(1, x.age(5, 1));
        machine("rule tree ways 4");
        due(NONE, x.age(5, 0));
        due(2, x.age(3, 0));
        machine("rule turn");
        due(0, x.age(1, 0));
        due(NONE, x.age(2, 0));
        machine("rule age sets 2");
        due(0, x.age(3, 1));
        due(1, x.age(3, 0));
        x.lock(1, 1);
        due(NONE, x.age(3, 1));
        due(0, x.age(2, 0));
        // Where edges meet: by all, with the greatest age; where nothing leads, all of age 0.
        fresh();
        load(0, 0);
        x.order(BRANCH, 1, 4, 0);
        load(0, 2);
        x.order(CALL, 1, 4, 0);
        x.order(ORDER, 0, 0, 0);
        due(1, x.age(4, 0));
        due(NONE, x.age(4, 1));
        fresh();
        x.order(CALL, 0, 2, 0);
        load(0, 0);
        x.order(ORDER, 0, 0, 0);
        due(0, x.age(1, 9));
        due(0, x.told(1, 7));
        due(NONE, x.age(2, 0));
    }

    private static void mays() {
        fresh();
        due(BAD, x.may(0, 0));
        load(0, 0);
        x.order(STORE, 0, 4, 3);
        x.order(BRANCH, 0, 1, 0);
        x.order(LOAD, 0, 1, 0);
        x.order(ORDER, 0, 0, 0);
        int[][] due = {{0, 0, 0}, {1, 1, 0}, {1, 1, 0}, {1, 1, 0}, {1, 1, 1}};
        for (int k = 0; k < 5; k++) {
            for (int line = 0; line < 3; line++) {
                due(due[k][line], x.may(k, line));
            }
        }
        due(1, x.may(4, 15));
        due(BAD, x.may(5, 0));
        due(BAD, x.may(-1, 0));
        due(BAD, x.may(0, 16));
        due(BAD, x.may(0, -1));
        x.lock(1, 1);
        due(0, x.may(2, 1));
        due(1, x.may(2, 0));
        // No line goes out of it: the cache has two places.
        fresh();
        for (int line = 0; line < 4; line++) {
            load(0, 2 * line);
        }
        due(1, x.may(3, 0));
    }

    private static void bounds() {
        loop();
        due(NONE, x.bound());
        x.turns(1, 0);
        due(5, x.bound());
        x.turns(1, 9);
        due(50, x.bound());
        machine("wrong 9");
        due(110, x.bound());
        for (int i = 0; i < 5; i++) {
            machine("wrong 3");
            due(50, x.bound());
        }
        // A turn to which nothing leads needs no number, but a number that it has counts.
        fresh();
        x.order(CALL, 0, 3, 0);
        x.order(BACK, 0, 0, 0);
        x.order(BRANCH, 0, 1, 0);
        x.order(ORDER, 0, 0, 0);
        due(3, x.bound());
        due(NONE, x.proves());
        // A BACK without told places that can be come to; no way to the end.
        fresh();
        x.order(BACK, 0, 0, 0);
        due(NONE, x.bound());
        x.places(0, 1);
        due(NONE, x.bound());
        x.turns(0, 5);
        due(NONE, x.bound());
        x.places(0, 3);
        x.turns(0, 5);
        due(12, x.bound());
        // Spent: 601 and more mixes; ahead of no way, behind a turn without number.
        fresh();
        for (int i = 0; i < 4; i++) {
            x.order(BRANCH, 0, 0, 0);
        }
        x.order(CALL, 0, 4, 0);
        x.turns(0, 9);
        x.turns(2, 9);
        x.turns(4, 5);
        x.turns(6, 0);
        due(NONE, x.bound());
        x.turns(8, 0);
        due(NONE, x.bound());
        x.turns(8, 1);
        due(SPENT, x.bound());
        due(SPENT, x.way(0));
        due(SPENT, x.locks(1, 0));
        due(SPENT, x.shared(1, 0));
        x.turns(6, NONE);
        due(NONE, x.bound());
        fresh();
        for (int i = 0; i < 3; i++) {
            x.order(BRANCH, 0, 0, 0);
        }
        x.turns(0, 9);
        x.turns(2, 9);
        x.turns(4, 5);
        // 9 alone at 0, 9 by 1 (2 orders), 5 by 2 (3 orders), then 3 to the end.
        due(4 * (9 + 18 + 15 + 3), x.bound());
        x.turns(4, 6);
        due(SPENT, x.bound());
        // Stalls, hits and the costlier side.
        fresh();
        load(1, 0);
        x.order(BRANCH, 1, 4, 0);
        load(2, 1);
        x.order(LONG, 3, 2, 2);
        x.order(STORE, 1, 4, 2);
        due(12 + 4 + 2 + 17 + 12, x.bound());
        x.lock(0, 1);
        due(2 + 4 + 2 + 17 + 12, x.bound());
    }

    private static void ways() {
        fresh();
        due(NONE, x.way(0));
        due(BAD, x.way(-1));
        loop();
        due(BAD, x.way(-1));
        due(NONE, x.way(0));
        x.turns(1, 2);
        for (int i = 0; i < 6; i++) {
            due(i % 2, x.way(i));
        }
        due(NONE, x.way(6));
        due(NONE, x.way(HIGH));
        due(BAD, x.way(LOW));
        // Of two ways of one sum that with the lesser order where they first differ.
        fresh();
        x.order(BRANCH, 0, 3, 0);
        x.order(ORDER, 0, 0, 0);
        x.order(CALL, 0, 5, 0);
        x.order(ORDER, 0, 0, 0);
        x.order(CALL, 0, 5, 0);
        due(7, x.bound());
        due(0, x.way(0));
        due(1, x.way(1));
        due(2, x.way(2));
        due(NONE, x.way(3));
        // The turn first, where that makes no difference to the sum.
        fresh();
        x.order(ORDER, 0, 0, 0);
        x.order(BRANCH, 0, 0, 0);
        x.order(BRANCH, 0, 0, 0);
        x.turns(1, 1);
        x.turns(3, 1);
        int[] way = {0, 1, 0, 1, 2, 0, 1, 2};
        for (int i = 0; i < way.length; i++) {
            due(way[i], x.way(i));
        }
        due(NONE, x.way(way.length));
    }

    private static void factors() {
        loop();
        due(5, x.factor(0));
        due(4, x.factor(1));
        due(BAD, x.factor(2));
        due(BAD, x.factor(-1));
        fresh();
        due(BAD, x.factor(0));
        x.order(BRANCH, 0, 2, 0);
        x.order(CALL, 0, 1, 0);
        x.order(LONG, 0, 0, 0);
        due(21, x.factor(0));
        due(0, x.factor(1));
        due(17, x.factor(2));
    }

    private static void shares() {
        loop();
        due(5, x.shares(1));
        due(KIND, x.shares(0));
        due(KIND, x.shares(2));
        due(BAD, x.shares(3));
        due(BAD, x.shares(-1));
        // Nothing is needed where the way on is costlier by far.
        fresh();
        x.order(BRANCH, 0, 0, 0);
        x.order(BACK, 0, 0, 0);
        x.places(1, 0b111);
        due(4, x.shares(0));
        due(6, x.shares(2));
        due(2, x.shares(3));
        fresh();
        x.order(BRANCH, 0, 2, 0);
        x.order(CALL, 0, 3, 0);
        x.order(CALL, 0, 1, 0);
        x.order(ORDER, 0, 0, 0);
        due(1, x.edge(3, 2));
        due(5, x.shares(3));
    }

    private static void provings() {
        loop();
        due(NONE, x.proves());
        x.turns(1, 0);
        due(5, x.proves());
        x.turns(1, 9);
        due(50, x.proves());
        x.clear();
        due(0, x.proves());
        x.order(ORDER, 0, 0, 0);
        due(1, x.proves());
        fresh();
        x.order(BRANCH, 0, 0, 0);
        x.order(BRANCH, 0, 0, 0);
        x.turns(0, 2);
        x.turns(2, 3);
        due(8 + 4 * 2 + 8 * 3, x.proves());
    }

    private static void lockSets() {
        fresh();
        due(0, x.locks(8, 0));
        due(0, x.locks(8, 1));
        due(BAD, x.locks(-1, 0));
        due(BAD, x.locks(9, 0));
        due(BAD, x.locks(0, 2));
        due(BAD, x.locks(0, -1));
        machine("ways 1");
        load(0, 6);
        load(0, 2);
        load(0, 6);
        x.order(STORE, 0, 4, 2);
        // The store waits for the load ahead of it.
        due(46, x.bound());
        due(46, x.locks(0, 0));
        due(0, x.locks(0, 1));
        // Line 3 or line 1 spares two misses, and then the other one misses once alone: the least as bits.
        due(16, x.locks(1, 0));
        due(2, x.locks(1, 1));
        due(6, x.locks(2, 0));
        due(10, x.locks(2, 1));
        due(10, x.locks(8, 1));
        due(0, x.count(3));
        x.lock(5, 1);
        x.lock(3, 1);
        due(16, x.bound());
        due(2, x.locks(1, 1));
        due(16, x.bound());
        // No more than are of use; the 8 least alone.
        fresh();
        for (int i = 9; i >= 0; i--) {
            load(0, 2 * i);
        }
        due(30, x.locks(8, 0));
        due(0xff, x.locks(8, 1));
        due(7, x.locks(3, 1));
        // Line 9 would spare most, but it is none of the 8 least.
        fresh();
        machine("ways 1");
        load(0, 18);
        for (int i = 0; i < 8; i++) {
            load(0, 2 * i);
            load(0, 18);
        }
        due(1, x.locks(1, 1));
        fresh();
        x.order(BRANCH, 0, 4, 0);
        load(0, 0);
        x.order(ORDER, 0, 0, 0);
        x.order(CALL, 0, 5, 0);
        x.order(PARTS, 0, 0, 0);
        due(23, x.locks(8, 0));
        due(0, x.locks(8, 1));
        loop();
        due(NONE, x.locks(0, 0));
    }

    private static void shareds() {
        fresh();
        due(0, x.shared(9, 99));
        load(0, 0);
        load(0, 1);
        load(0, 2);
        due(23, x.shared(1, 99));
        due(23, x.shared(9, 0));
        due(23 + 2 * 8 * 99, x.shared(9, 99));
        due(25, x.shared(2, 1));
        due(23, x.bound());
        due(10, x.is(3));
        due(BAD, x.shared(0, 0));
        due(BAD, x.shared(10, 0));
        due(BAD, x.shared(1, 100));
        due(BAD, x.shared(1, -1));
        loop();
        due(NONE, x.shared(1, 1));
    }

    private static void works() {
        fresh();
        due(BAD, x.work(0, 1));
        due(BAD, x.work(1, 0));
        due(BAD, x.work(10000, 1));
        due(BAD, x.work(1, 10000));
        due(BAD, x.work(LOW, HIGH));
        for (int i = 0; i < 8; i++) {
            due(i, x.work(9999, 9999));
        }
        due(FULL, x.work(1, 1));
        due(BAD, x.work(1, 0));
        due(8, x.count(4));
    }

    private static void answers() {
        fresh();
        due(BAD, x.answer(0));
        x.work(1, 4);
        x.work(2, 6);
        x.work(3, 13);
        x.work(1, 12);
        x.work(5, 4);
        due(1, x.answer(0));
        due(3, x.answer(1));
        due(10, x.answer(2));
        due(11, x.answer(3));
        due(NONE, x.answer(4));
        due(BAD, x.answer(5));
        due(BAD, x.answer(-1));
        fresh();
        x.work(1, 1);
        x.work(1, 9999);
        due(1, x.answer(0));
        due(NONE, x.answer(1));
        fresh();
        x.work(9998, 9999);
        x.work(1, 9999);
        due(9999, x.answer(1));
        x.work(9999, 9999);
        due(NONE, x.answer(2));
    }

    private static void fittings() {
        fresh();
        due(-1, x.fits());
        x.work(5, 5);
        due(-1, x.fits());
        x.work(1, 9999);
        due(1, x.fits());
        x.work(1, 1);
        due(1, x.fits());
        fresh();
        x.work(2, 1);
        due(0, x.fits());
    }

    private static void sheets() {
        fresh();
        due(BAD, x.sheet(-1, 0, 1));
        due(BAD, x.sheet(4, 0, 1));
        due(BAD, x.sheet(0, -2, 1));
        due(BAD, x.sheet(0, 4, 1));
        due(BAD, x.sheet(0, 4, -1));
        due(BAD, x.sheet(0, 0, 33));
        due(SIZE, x.sheet(0, 0, -1));
        due(SIZE, x.sheet(0, 0, LOW));
        due(NOTHING, x.mark(0, 0, 1));
        due(0, x.sheet(0, -1, 99));
        due(32, x.sheet(0, 2, 32));
        due(1, x.mark(0, 31, 8));
        due(SIZE, x.sheet(0, 2, -1));
        x.pour(0, 31, 0, 1);
        due(8, x.memory(0, 0));
        due(32, x.sheet(0, 2, 32));
        x.pour(0, 31, 0, 1);
        due(0, x.memory(0, 0));
        due(0, x.sheet(0, 1, 0));
        due(INDEX, x.mark(0, 0, 1));
        due(0, x.sheet(0, -1, -5));
        due(NOTHING, x.mark(0, 0, 1));
    }

    private static void marks() {
        fresh();
        int[][] seen = {{-56, 127, 0}, {200, -129, 0}, {200, 65407, 65536}, {200, 65407, 65536}};
        for (int sort = 0; sort < 4; sort++) {
            x.sheet(sort, sort, 3);
            due(1, x.mark(sort, 0, 200));
            due(1, x.mark(sort, 1, 65407));
            due(1, x.mark(sort, 2, 65536));
            x.lay(sort, 2, sort);
            for (int i = 0; i < 3; i++) {
                due(seen[sort][i], x.item(sort, i));
            }
        }
        due(INDEX, x.mark(0, 3, 1));
        due(INDEX, x.mark(0, -1, 1));
        due(BAD, x.mark(4, 0, 1));
        due(BAD, x.mark(-1, 0, 1));
    }

    private static void pours() {
        fresh();
        x.sheet(0, 1, 4);
        for (int i = 0; i < 4; i++) {
            x.mark(0, i, 40000 + i);
        }
        due(BAD, x.pour(4, 0, 0, 1));
        due(BAD, x.pour(0, 0, 32, 0));
        due(BAD, x.pour(0, 0, -1, 1));
        due(BAD, x.pour(0, 0, 0, 33));
        due(BAD, x.pour(0, 0, 0, -1));
        due(BAD, x.pour(0, 0, 30, 3));
        due(BAD, x.pour(1, 0, 30, 3));
        due(NOTHING, x.pour(1, 9, 0, 1));
        due(INDEX, x.pour(0, 2, 0, 3));
        due(INDEX, x.pour(0, -1, 0, 1));
        due(INDEX, x.pour(0, HIGH, 0, 2));
        due(0, x.pour(0, 4, 0, 0));
        due(0, x.memory(0, 0));
        due(2, x.pour(0, 2, 30, 2));
        due(40002 - 65536, x.memory(30, 0));
        due(40003 - 65536, x.memory(31, 0));
        x.sheet(3, 3, 1);
        x.mark(3, 0, LOW);
        due(1, x.pour(3, 0, 7, 1));
        due(LOW, x.memory(7, 0));
    }

    private static void copies() {
        fresh();
        x.sheet(0, 2, 5);
        x.sheet(1, 2, 3);
        x.sheet(2, 1, 3);
        for (int i = 0; i < 5; i++) {
            x.mark(0, i, i + 1);
        }
        due(BAD, x.copy(-1, 0, 0, 0, 1));
        due(BAD, x.copy(0, 0, 4, 0, 1));
        due(NOTHING, x.copy(0, 9, 3, 9, 9));
        due(NOTHING, x.copy(3, 0, 2, 0, 1));
        due(KIND, x.copy(0, 9, 2, 9, 9));
        due(INDEX, x.copy(0, 3, 1, 0, 3));
        due(INDEX, x.copy(0, 0, 1, 0, 4));
        due(INDEX, x.copy(0, -1, 1, 0, 1));
        due(INDEX, x.copy(0, 0, 1, -1, 1));
        due(INDEX, x.copy(0, 1, 1, 1, HIGH));
        due(0, x.copy(0, 5, 1, 3, 0));
        due(2, x.copy(0, 3, 1, 1, 2));
        due(4, x.copy(0, 0, 0, 1, 4));
        x.lay(0, 2, 0);
        x.lay(1, 2, 1);
        int[] first = {1, 1, 2, 3, 4};
        int[] second = {0, 4, 5};
        for (int i = 0; i < 5; i++) {
            due(first[i], x.item(0, i));
        }
        for (int i = 0; i < 3; i++) {
            due(second[i], x.item(1, i));
        }
        due(4, x.copy(0, 1, 0, 0, 4));
        x.lay(0, 2, 0);
        due(2, x.item(0, 1));
        due(4, x.item(0, 4));
    }

    private static void lays() {
        fresh();
        due(BAD, x.lay(-1, 0, 0));
        due(BAD, x.lay(6, 0, 0));
        due(BAD, x.lay(0, 4, 0));
        due(BAD, x.lay(0, -1, 0));
        due(BAD, x.lay(0, 1, 0));
        due(BAD, x.lay(0, 2, 4));
        due(NOTHING, x.lay(0, 2, 3));
        x.order(LONG, 0, 0, 0);
        x.sheet(3, 2, 1);
        due(0, x.lay(5, 1, 0));
        due(1, x.lay(5, 2, 3));
        due(BAD, x.lay(5, 1, 1));
        due(2, x.lay(5, 3, LOW));
        due(3, x.lay(5, 0, 77));
        due(0, x.lay(5, 0, 0));
        // For good: an order stays as it was, a sheet is a row of its own.
        x.lay(0, 1, 0);
        x.lay(1, 2, 3);
        x.clear();
        x.order(ORDER, 0, 0, 0);
        x.mark(3, 0, 9);
        x.sheet(2, 2, 1);
        due(17, x.ask(0, 5));
        due(0, x.item(1, 0));
        x.sheet(3, -1, 0);
        due(0, x.item(1, 0));
    }

    private static void asks() {
        fresh();
        x.order(LOAD, 0, 4, 6);
        x.order(LOAD, 0, 4, 6);
        x.order(LOAD, 0, 1, 6);
        x.order(BRANCH, 0, 0, 0);
        x.order(BACK, 0, 0, 0);
        x.order(PARTS, 0, 0, 0);
        for (int i = 0; i < 5; i++) {
            x.lay(i, 1, i + 1);
        }
        due(BAD, x.ask(-1, 0));
        due(BAD, x.ask(6, 0));
        due(BAD, x.ask(0, 8));
        due(BAD, x.ask(0, -1));
        due(BAD, x.ask(5, 8));
        due(NOTHING, x.ask(5, 0));
        due(1, x.told(1, 6));
        due(11, x.ask(0, 0));
        due(11, x.ask(0, 1));
        due(KIND, x.ask(0, 2));
        due(11, x.ask(1, 1));
        due(4, x.ask(2, 3));
        due(2, x.ask(3, 3));
        due(2, x.ask(3, 4));
        due(KIND, x.ask(3, 5));
        due(19, x.ask(4, 5));
        x.lock(3, 1);
        machine("wrong 0 long 0 miss 50");
        due(1, x.ask(0, 1));
        due(51, x.ask(1, 1));
        due(1, x.ask(2, 0));
        due(3, x.ask(4, 6));
        x.lay(5, 3, 1);
        due(KIND, x.ask(5, 0));
        x.clear();
        load(0, 1);
        x.lay(0, 1, 0);
        due(51, x.ask(0, 1));
        x.lock(0, 1);
        due(1, x.ask(0, 1));
        due(51, x.ask(1, 1));
    }

    private static void items() {
        fresh();
        x.sheet(0, 3, 2);
        x.mark(0, 1, -1);
        x.order(ORDER, 0, 0, 0);
        due(BAD, x.item(-1, 0));
        due(BAD, x.item(6, 0));
        due(NOTHING, x.item(0, 0));
        x.lay(0, 2, 0);
        x.lay(1, 1, 0);
        x.lay(2, 3, 0);
        due(0, x.item(0, 0));
        due(-1, x.item(0, 1));
        due(INDEX, x.item(0, 2));
        due(INDEX, x.item(0, -1));
        due(KIND, x.item(1, 9));
        due(KIND, x.item(2, 0));
    }

    private static void tells() {
        fresh();
        for (int i = 1; i <= 60; i++) {
            due(i, x.tell(LOW + i));
        }
        due(FULL, x.tell(0));
        due(60, x.count(5));
        due(NO, x.check());
        due(0, x.count(5));
        due(1, x.tell(0));
        due(NO, x.record());
        due(0, x.count(5));
    }

    private static void tellAll(int... all) {
        for (int v : all) {
            x.tell(v);
        }
    }

    private static void checksOf() {
        fresh();
        due(0, x.check());
        loop();
        tellAll(5, 4);
        due(NO, x.check());
        tellAll(5, 4, 5, 0);
        due(NO, x.check());
        tellAll(5, 4, -1);
        due(NO, x.check());
        tellAll(5, 4, 5);
        due(NONE, x.check());
        x.turns(1, 2);
        tellAll(5, 4, 5);
        due(15, x.check());
        due(0, x.count(5));
        tellAll(4, 4, 5);
        due(-11, x.check());
        tellAll(5, 4, 4);
        due(-12, x.check());
        tellAll(4, 3, 6);
        due(-13, x.check());
        tellAll(HIGH, 4, HIGH);
        due(KIND, x.check());
        tellAll(2000000000, 1999999999, 0);
        due(-12, x.check());
        tellAll(1999999990, 1999999989, 5);
        due(2000000000, x.check());
        tellAll(1999999991, 1999999990, 5);
        due(KIND, x.check());
        // Two turns: their factors stand by numbers.
        fresh();
        x.order(BRANCH, 0, 0, 0);
        x.order(BRANCH, 0, 0, 0);
        x.turns(0, 2);
        x.turns(2, 3);
        tellAll(8, 4, 4, 8);
        due(8 + 4 * 2 + 8 * 3, x.check());
        tellAll(8, 4, 8, 4);
        due(-13, x.check());
        tellAll(8, 4, 3, 9);
        due(-11, x.check());
        x.clear();
        tellAll(5);
        due(NO, x.check());
        due(0, x.check());
        fresh();
        x.order(CALL, 0, 0, 0);
        x.turns(0, 3);
        tellAll(-7, 2);
        due(KIND, x.check());
        tellAll(-6, 2);
        due(0, x.check());
        tellAll(LOW, HIGH);
        due(KIND, x.check());
    }

    private static void records() {
        loop();
        tellAll(0);
        due(NO, x.record());
        due(0, x.count(5));
        x.run(0);
        due(0, x.record());
        tellAll(0, 1, 1, 5, 0, 6, 1, 10, 0, 11, 1, 12);
        due(0, x.record());
        due(0, x.count(5));
        tellAll(0, 1, 1, 5, 0, 6, 1, 10, 0, 11, 1, 12, 2);
        due(13, x.record());
        tellAll(0, 1, 1);
        due(0, x.record());
        tellAll(1);
        due(1, x.record());
        tellAll(0, 1, 1, 6, 0);
        due(4, x.record());
        // What an earlier and longer run told is no step of this one.
        fresh();
        x.order(ORDER, 0, 0, 0);
        x.order(BRANCH, 0, 3, 0);
        x.order(ORDER, 0, 0, 0);
        x.run(0);
        x.run(-1);
        tellAll(0, 1, 1, 5, 2);
        due(5, x.record());
        x.clear();
        tellAll(0);
        due(NO, x.record());
    }

    private static void keeps() {
        loop();
        due(2, x.keep());
        x.order(ORDER, 0, 0, 0);
        x.run(0);
        due(3, x.keep());
        due(0, x.ran(12));
        x.clear();
        due(3, x.back());
        due(3, x.count(0));
        fresh();
        due(0, x.keep());
    }

    private static void backs() {
        fresh();
        due(NO, x.back());
        machine("miss 50 rule tree");
        x.order(BRANCH, 1, 0, 9);
        x.order(BACK, 1, 0, 0);
        x.places(1, 6);
        x.turns(0, 4);
        x.turns(2, 5);
        x.lock(4, 1);
        x.memory(7, 70);
        x.work(3, 30);
        x.sheet(0, 2, 1);
        x.lay(0, 3, 5);
        x.tell(1);
        x.keep();
        for (int round = 0; round < 2; round++) {
            machine("miss 4 rule age");
            x.clear();
            x.order(ORDER, 0, 0, 0);
            x.lock(4, 0);
            x.lock(5, 1);
            x.memory(7, 71);
            x.work(4, 40);
            x.sheet(0, -1, 0);
            x.lay(0, 0, 0);
            x.tell(1);
            x.run(0);
            due(2, x.back());
            due(50, x.is(3));
            due(2, x.is(2));
            due(2, x.count(0));
            due(BRANCH, x.told(0, 0));
            due(6, x.told(1, 4));
            due(4, x.edge(0, 3));
            due(5, x.edge(2, 3));
            due(1, x.count(3));
            due(1, x.lock(4, 1));
            due(70, x.memory(7, 70));
            due(1, x.count(4));
            due(3, x.answer(0));
            due(NO, x.ran(0));
            due(NOTHING, x.mark(0, 0, 0));
            due(NOTHING, x.ask(0, 0));
            due(round + 2, x.count(5));
        }
    }

    private static void backsOfPrograms() {
        fresh();
        load(1, 4);
        x.order(LONG, 2, 1, 3);
        x.order(STORE, 2, 4, 5);
        x.work(3, 30);
        x.work(4, 40);
        int bound = x.bound();
        due(12 + 17 + 2, bound);
        x.keep();
        x.clear();
        due(0, x.bound());
        x.order(STORE, 3, 0, 7);
        x.order(ORDER, 0, 2, 9);
        x.order(BRANCH, 1, 1, -1);
        x.turns(2, 1);
        due(12 + 1 + 4 + 1 + 4, x.bound());
        x.back();
        due(bound, x.bound());
        int[][] all = {{LOAD, 1, 4, 4}, {LONG, 2, 1, 3}, {STORE, 2, 4, 5}};
        for (int k = 0; k < 3; k++) {
            for (int what = 0; what < 4; what++) {
                due(all[k][what], x.told(k, what));
            }
        }
        due(1, x.told(0, 7));
        due(0, x.told(2, 7));
        due(7, x.answer(1));
        TickBound other = x;
        fresh();
        x.work(9, 90);
        x.work(9, 90);
        x.keep();
        due(18, x.answer(1));
        x.work(1, 100);
        x.back();
        due(2, x.count(4));
        due(18, x.answer(1));
        // Two objects have nothing in common.
        due(7, other.answer(1));
        due(3, other.back());
    }

    private static void counts() {
        loop();
        x.order(BACK, 0, 0, 0);
        x.places(2, 15);
        x.turns(1, 0);
        x.lock(1, 1);
        x.lock(2, 1);
        x.work(1, 1);
        x.tell(0);
        x.feed(0, 0, 0);
        int[] due = {3, 4, 1, 2, 1, 1, 12};
        for (int i = 0; i < due.length; i++) {
            due(due[i], x.count(i));
        }
        due(BAD, x.count(-1));
        due(BAD, x.count(7));
        due(BAD, x.count(LOW));
    }

    private static void test(int number) {
        promise = number;
        switch (number) {
            case 1: newObject(); break;
            case 2: feeds(); break;
            case 3: trims(); break;
            case 4: machines(); break;
            case 5: parts(); break;
            case 6: words(); break;
            case 7: lockings(); break;
            case 8: orders(); break;
            case 9: clears(); break;
            case 10: tellings(); break;
            case 11: kinds(); break;
            case 12: toldPlaces(); break;
            case 13: runs(); calls(); stalls(); cacheRules(); break;
            case 14: rans(); break;
            case 15: steps(); break;
            case 16: showns(); break;
            case 17: edgesOf(); break;
            case 18: edgeOf(); break;
            case 19: numbers(); break;
            case 20: blocksOf(); break;
            case 21: blockOf(); break;
            case 22: ages(); break;
            case 23: mays(); break;
            case 24: bounds(); break;
            case 25: ways(); break;
            case 26: factors(); break;
            case 27: shares(); break;
            case 28: provings(); break;
            case 29: lockSets(); break;
            case 30: shareds(); break;
            case 31: works(); break;
            case 32: answers(); break;
            case 33: fittings(); break;
            case 34: sheets(); break;
            case 35: marks(); break;
            case 36: pours(); break;
            case 37: copies(); break;
            case 38: lays(); break;
            case 39: asks(); break;
            case 40: items(); break;
            case 41: tells(); break;
            case 42: checksOf(); break;
            case 43: records(); break;
            case 44: keeps(); break;
            case 45: backs(); backsOfPrograms(); break;
            default: counts(); break;
        }
    }

    public static void main(String[] args) {
        for (int number = 1; number <= 46; number++) {
            test(number);
        }
        System.out.println("46 promises, " + checks + " answers, " + wrong + " are not as due");
        if (wrong != 0) {
            System.exit(1);
        }
    }
}
