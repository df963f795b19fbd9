/** Promises 8 to 12, and what "Terms" 2 says of kinds and their numbers, sentence by sentence. */
public final class OrderSentencesTest extends Sentences {
    private void takes(int kind, int a, int b, int c) {
        fresh();
        due(0, x.order(kind, a, b, c));
        due(kind, x.told(0, 0));
        due(a, x.told(0, 1));
        due(b, x.told(0, 2));
        due(c, x.told(0, 3));
        due(1, x.count(0));
    }

    private void refuses(int kind, int a, int b, int c) {
        fresh();
        due(BAD, x.order(kind, a, b, c));
        due(0, x.count(0));
    }

    private void refusesRegisters(int kind, int b, int c) {
        for (int a : new int[] {-1, 4, LOW, HIGH}) {
            refuses(kind, a, b, c);
        }
    }

    // ---- 8: One more ORDER (numbers of TURNS go): its number. BAD; FULL.

    void p08_kindsAre0To7() {
        for (int kind = 0; kind < 8; kind++) {
            takes(kind, 0, 0, 0);
        }
        for (int kind : new int[] {-1, 8, 9, LOW, HIGH}) {
            refuses(kind, 0, 0, 0);
        }
    }

    /** "ORDER: register a becomes register b and c (-999 .. 999)." */
    void p08_order() {
        takes(ORDER, 0, 0, -999);
        takes(ORDER, 3, 3, 999);
        refuses(ORDER, 0, 0, -1000);
        refuses(ORDER, 0, 0, 1000);
        refuses(ORDER, 0, 0, LOW);
        refuses(ORDER, 0, 0, HIGH);
        refuses(ORDER, 0, -1, 0);
        refuses(ORDER, 0, 4, 0);
        refuses(ORDER, 0, HIGH, 0);
        refusesRegisters(ORDER, 0, 0);
    }

    /** "ADDRESS: register b and c (c -999 .. 999), or with b 4 just c (0 .. 31)." */
    void p08_loadAndStore() {
        for (int kind = LOAD; kind <= STORE; kind++) {
            takes(kind, 0, 0, -999);
            takes(kind, 3, 3, 999);
            takes(kind, 0, 4, 0);
            takes(kind, 3, 4, 31);
            refuses(kind, 0, 0, -1000);
            refuses(kind, 0, 3, 1000);
            refuses(kind, 0, 4, -1);
            refuses(kind, 0, 4, 32);
            refuses(kind, 0, 4, 999);
            refuses(kind, 0, -1, 0);
            refuses(kind, 0, 5, 0);
            refuses(kind, 0, LOW, 0);
            refusesRegisters(kind, 0, 0);
            refusesRegisters(kind, 4, 0);
        }
    }

    /** "BRANCH: if register a is below c (-999 .. 999) to order b"; "Orders to which they go: 0 .. 28, there or not" */
    void p08_branch() {
        takes(BRANCH, 0, 0, -999);
        takes(BRANCH, 3, 28, 999);
        refuses(BRANCH, 0, 0, -1000);
        refuses(BRANCH, 0, 0, 1000);
        refuses(BRANCH, 0, -1, 0);
        refuses(BRANCH, 0, 29, 0);
        refuses(BRANCH, 0, HIGH, 0);
        refusesRegisters(BRANCH, 0, 0);
    }

    /** "CALL: ... to order b (c 0)." */
    void p08_call() {
        takes(CALL, 0, 0, 0);
        takes(CALL, 3, 28, 0);
        refuses(CALL, 0, -1, 0);
        refuses(CALL, 0, 29, 0);
        refuses(CALL, 0, 0, 1);
        refuses(CALL, 0, 0, -1);
        refusesRegisters(CALL, 0, 0);
    }

    /** "BACK: ... (b, c 0)." */
    void p08_back() {
        takes(BACK, 0, 0, 0);
        takes(BACK, 3, 0, 0);
        refuses(BACK, 0, 1, 0);
        refuses(BACK, 0, -1, 0);
        refuses(BACK, 0, 0, 1);
        refuses(BACK, 0, 0, -1);
        refusesRegisters(BACK, 0, 0);
    }

    /** "registers 0 .. 3" */
    void p08_longAndParts() {
        for (int kind = LONG; kind <= PARTS; kind++) {
            takes(kind, 0, 0, 0);
            takes(kind, 3, 3, 3);
            refuses(kind, 0, -1, 0);
            refuses(kind, 0, 4, 0);
            refuses(kind, 0, 0, -1);
            refuses(kind, 0, 0, 4);
            refuses(kind, 0, LOW, HIGH);
            refusesRegisters(kind, 0, 0);
        }
    }

    /** "ORDERS, 28 at most, numbered from 0" */
    void p08_28AtMost() {
        for (int i = 0; i < 28; i++) {
            due(i, x.order(ORDER, 0, 0, i));
        }
        due(FULL, x.order(ORDER, 0, 0, 0));
        due(28, x.count(0));
        for (int i = 0; i < 28; i++) {
            due(i, x.told(i, 3));
        }
        due(28, x.clear());
        due(0, x.order(ORDER, 0, 0, 0));
    }

    void p08_badStandsAheadOfFull() {
        plainOrders(28);
        due(BAD, x.order(8, 0, 0, 0));
        due(BAD, x.order(ORDER, 4, 0, 0));
        due(BAD, x.order(LOAD, 0, 4, 32));
        due(FULL, x.order(LOAD, 0, 4, 31));
    }

    void p08_numbersOfTurnsGo() {
        loop();
        x.turns(1, 2);
        due(2, x.order(ORDER, 0, 0, 0));
        due(NONE, x.edge(1, 3));
        due(0, x.count(2));
    }

    /** "(or it goes: ORDERS ... came)" */
    void p08_whatTheRunToldGoes() {
        loop();
        x.run(0);
        x.order(ORDER, 0, 0, 0);
        due(NO, x.ran(0));
    }

    void p08_placesStay() {
        orders(BACK, 0, 0, 0);
        x.places(0, 5);
        x.order(ORDER, 0, 0, 0);
        due(5, x.told(0, 4));
        due(0, x.told(1, 4));
    }

    void p08_badChangesNothing() {
        int[][] bad = {{8, 0, 0, 0}, {-1, 0, 0, 0}, {ORDER, 0, 4, 0}, {LOAD, 0, 4, 32}, {BRANCH, 0, 29, 0},
                {CALL, 0, 0, 1}, {BACK, 0, 1, 0}, {LONG, 0, 0, 4}};
        for (int[] o : bad) {
            refused(BAD, y -> y.order(o[0], o[1], o[2], o[3]));
        }
    }

    void p08_fullChangesNothing() {
        Maker full = () -> {
            TickBound y = rich();
            y.trim(0);
            for (int i = 9; i < 28; i++) {
                y.order(ORDER, 0, 0, 0);
            }
            y.turns(3, 1);
            y.turns(10, 1);
            y.run(2);
            return y;
        };
        refused(full, FULL, y -> y.order(ORDER, 0, 0, 0));
    }

    // ---- 9: No ORDERS, places, numbers of TURNS: how many there were.

    void p09_howManyThereWere() {
        due(0, x.clear());
        plainOrders(1);
        due(1, x.clear());
        plainOrders(28);
        due(28, x.clear());
        due(0, x.clear());
        due(0, x.count(0));
        due(0, x.edges());
        due(0, x.blocks());
        due(0, x.bound());
    }

    void p09_placesGo() {
        orders(BACK, 0, 0, 0);
        x.places(0, ALL_PLACES);
        x.clear();
        orders(BACK, 0, 0, 0);
        due(0, x.told(0, 4));
        due(0, x.edges());
    }

    void p09_numbersOfTurnsGo() {
        orders(ORDER, 1, 1, 1, BRANCH, 1, 0, 3);
        x.turns(1, 2);
        x.clear();
        due(0, x.count(2));
        orders(ORDER, 1, 1, 1, BRANCH, 1, 0, 3);
        due(NONE, x.edge(1, 3));
    }

    void p09_whatTheRunToldGoes() {
        loop();
        x.run(0);
        x.clear();
        due(NO, x.ran(0));
        due(NO, x.step(0, 0));
    }

    void p09_boundsGo() {
        loads("", 0, 1);
        due(22, x.bound());
        due(22, x.proves());
        due(0, x.way(0));
        x.clear();
        due(0, x.bound());
        due(0, x.proves());
        due(NONE, x.way(0));
        due(0, x.locks(8, 0));
        x.order(ORDER, 0, 0, 0);
        due(1, x.bound());
    }

    void p09_allElseStays() {
        Maker cleared = () -> {
            TickBound y = rich();
            y.clear();
            return y;
        };
        TickBound y = cleared.make();
        due(20, y.is(3));
        due(LOW, y.memory(31, 0));
        due(1, y.lock(3, 1));
        due(2, y.count(3));
        due(2, y.count(4));
        due(8, y.count(5));
        due(15, y.count(6));
        due(21, y.ask(0, 1));
        due(HIGH, y.item(1, 0));
        due(1, y.mark(2, 1, 0));
        due(2, y.back());
    }

    // ---- 10: Of an ORDER: what 0 .. 7. BAD.

    private void someOfEachKind() {
        fresh();
        machine("miss 20 wrong 4 long 3");
        orders(ORDER, 0, 1, 2, LOAD, 0, 4, 5, STORE, 1, 4, 8, BRANCH, 2, 9, 9, CALL, 3, 6, 0, LONG, 1, 2, 3,
                PARTS, 3, 2, 1, BACK, 2, 0, 0, LOAD, 0, 1, 5);
        x.places(7, 1 << 8 | 1 << 20);
    }

    void p10_kindABCPlaces() {
        someOfEachKind();
        int[][] want = {{0, 0, 1, 2, 0}, {1, 0, 4, 5, 0}, {2, 1, 4, 8, 0}, {3, 2, 9, 9, 0}, {4, 3, 6, 0, 0},
                {5, 1, 2, 3, 0}, {6, 3, 2, 1, 0}, {7, 2, 0, 0, 1 << 8 | 1 << 20}, {1, 0, 1, 5, 0}};
        for (int k = 0; k < want.length; k++) {
            for (int what = 0; what < 5; what++) {
                due(want[k][what], x.told(k, what));
            }
        }
    }

    void p10_howManyEdges() {
        someOfEachKind();
        int[] want = {1, 1, 1, 2, 1, 1, 1, 2, 1};
        for (int k = 0; k < want.length; k++) {
            due(want[k], x.told(k, 5));
        }
        x.places(7, 0);
        due(0, x.told(7, 5));
        x.places(7, ALL_PLACES);
        due(10, x.told(7, 5));
    }

    /** "COST of an ORDER: what TICKS may be at most, without STALL" */
    void p10_cost() {
        someOfEachKind();
        int[] want = {1, 21, 22, 5, 2, 25, 27, 2, 21};
        for (int k = 0; k < want.length; k++) {
            due(want[k], x.told(k, 6));
        }
        machine("miss 0 wrong 0 long 0");
        int[] least = {1, 1, 2, 1, 2, 1, 3, 2, 1};
        for (int k = 0; k < least.length; k++) {
            due(least[k], x.told(k, 6));
        }
        machine("miss 99 wrong 9 long 9");
        int[] most = {1, 100, 101, 10, 2, 73, 75, 2, 100};
        for (int k = 0; k < most.length; k++) {
            due(most[k], x.told(k, 6));
        }
    }

    /** A cost is without a stall, whatever stands ahead. */
    void p10_costIsWithoutStall() {
        machine("stall 9");
        orders(LOAD, 1, 4, 0, ORDER, 1, 1, 0);
        due(11, x.told(0, 6));
        due(1, x.told(1, 6));
    }

    /** "MISS where it does not TELL HIT" */
    void p10_aHitIsNoMiss() {
        orders(LOAD, 1, 4, 0, STORE, 1, 4, 1, LOAD, 1, 4, 2);
        due(11, x.told(0, 6));
        due(2, x.told(1, 6));
        due(11, x.told(2, 6));
        x.lock(1, 1);
        due(1, x.told(2, 6));
    }

    void p10_whatItTells() {
        someOfEachKind();
        int[] want = {NONE, 1, 1, NONE, NONE, NONE, NONE, NONE, 2};
        for (int k = 0; k < want.length; k++) {
            due(want[k], x.told(k, 7));
        }
    }

    /** "0 HIT: its LINE is told and LOCKED, or in MUST; 1 MISS: it is told, not LOCKED, and not in MAY; 2 OPEN." */
    void p10_tellsHitMissOpen() {
        orders(LOAD, 1, 4, 0, BRANCH, 0, 3, 0, LOAD, 1, 4, 2, LOAD, 1, 4, 3, LOAD, 1, 4, 0, LOAD, 1, 4, 1,
                STORE, 1, 0, 0);
        // 2: never asked before; 3: by one way asked, by the other not; 4: two that may have come since; 6: not told.
        int[] want = {1, NONE, 1, 2, 2, 0, 2};
        for (int k = 0; k < want.length; k++) {
            due(want[k], x.told(k, 7));
        }
        x.lock(1, 1);
        due(0, x.told(2, 7));
        due(0, x.told(3, 7));
        // A line not told is open even if all lines are locked.
        for (int line = 0; line < 16; line++) {
            x.lock(line, 1);
        }
        due(2, x.told(6, 7));
        due(0, x.told(0, 7));
    }

    void p10_bad() {
        someOfEachKind();
        for (int order : new int[] {-1, 9, 28, LOW, HIGH}) {
            due(BAD, x.told(order, 0));
        }
        for (int what : new int[] {-1, 8, LOW, HIGH}) {
            due(BAD, x.told(0, what));
        }
        due(BAD, x.told(9, 8));
        refused(BAD, y -> y.told(9, 0));
        refused(BAD, y -> y.told(0, 8));
    }

    void p10_theLastOfAFullProgram() {
        plainOrders(27);
        x.order(BRANCH, 3, 28, 7);
        due(28, x.told(27, 2));
        due(1, x.told(27, 5));
        due(BAD, x.told(28, 0));
    }

    // ---- 11: An ORDER as one of a KIND: its c. BAD: order, kind; KIND: not of that KIND, nor of one under it.

    /** "1 LOAD, 3 BRANCH, 5 LONG, under ORDER; 2 STORE, under LOAD; 4 CALL, under BRANCH; 7 BACK, under CALL; 6 PARTS" */
    void p11_kindsUnderOneAnother() {
        orders(ORDER, 0, 0, 7, LOAD, 0, 4, 6, STORE, 0, 4, 5, BRANCH, 0, 0, 4, CALL, 0, 0, 0, LONG, 0, 0, 3,
                PARTS, 0, 0, 2, BACK, 0, 0, 0);
        String[] of = {"0", "01", "012", "03", "034", "05", "056", "0347"};
        int[] c = {7, 6, 5, 4, 0, 3, 2, 0};
        for (int k = 0; k < 8; k++) {
            for (int kind = 0; kind < 8; kind++) {
                due(of[k].indexOf('0' + kind) >= 0 ? c[k] : KIND, x.as(k, kind));
            }
        }
    }

    void p11_leastAndGreatestC() {
        orders(ORDER, 0, 0, -999, ORDER, 0, 0, 999);
        due(-999, x.as(0, 0));
        due(999, x.as(1, 0));
    }

    void p11_bad() {
        plainOrders(2);
        for (int order : new int[] {-1, 2, 28, LOW, HIGH}) {
            due(BAD, x.as(order, 0));
            due(BAD, x.as(order, 1));
        }
        for (int kind : new int[] {-1, 8, LOW, HIGH}) {
            due(BAD, x.as(0, kind));
        }
        due(KIND, x.as(1, 7));
    }

    void p11_refusedChangesNothing() {
        refused(BAD, y -> y.as(9, 0));
        refused(BAD, y -> y.as(0, 8));
        refused(KIND, y -> y.as(0, 2));
    }

    // ---- 12: Told places of a BACK become a set (bits 0 .. 28; numbers of TURNS go): what they were.

    void p12_leastAndGreatestSet() {
        orders(BACK, 0, 0, 0);
        due(0, x.places(0, ALL_PLACES));
        due(ALL_PLACES, x.told(0, 4));
        for (int set : new int[] {-1, 1 << 29, 1 << 30, LOW, HIGH, LOW | 1}) {
            due(BAD, x.places(0, set));
        }
        due(ALL_PLACES, x.places(0, 1 << 28));
        due(1 << 28, x.places(0, 1));
        due(1, x.places(0, 0));
        due(0, x.told(0, 4));
    }

    void p12_ordersThatAreThere() {
        orders(BACK, 0, 0, 0, BACK, 1, 0, 0);
        for (int order : new int[] {-1, 2, LOW, HIGH}) {
            due(BAD, x.places(order, 1));
        }
        due(0, x.places(0, 1));
        due(0, x.places(1, 2));
        due(1, x.told(0, 4));
        due(2, x.told(1, 4));
    }

    void p12_kindNoBack() {
        orders(ORDER, 0, 0, 0, LOAD, 0, 0, 0, STORE, 0, 0, 0, BRANCH, 0, 0, 0, CALL, 0, 0, 0, LONG, 0, 0, 0,
                PARTS, 0, 0, 0, BACK, 0, 0, 0);
        for (int k = 0; k < 7; k++) {
            due(KIND, x.places(k, 1));
            due(BAD, x.places(k, -1));
            due(BAD, x.places(k, 1 << 29));
        }
        due(0, x.places(7, 1));
    }

    void p12_numbersOfTurnsGo() {
        orders(ORDER, 0, 0, 0, BACK, 0, 0, 0);
        x.places(1, 3);
        x.turns(1, 4);
        due(4, x.edge(1, 3));
        // Even by the same set.
        due(3, x.places(1, 3));
        due(NONE, x.edge(1, 3));
        due(0, x.count(2));
    }

    /** "(or it goes: ... places ... came)" */
    void p12_whatTheRunToldGoes() {
        orders(BACK, 0, 0, 0);
        x.run(0);
        due(3, x.ran(12));
        x.places(0, 0);
        due(NO, x.ran(12));
    }

    void p12_refusedChangesNothing() {
        refused(BAD, y -> y.places(8, -1));
        refused(BAD, y -> y.places(8, 1 << 29));
        refused(BAD, y -> y.places(9, 1));
        refused(BAD, y -> y.places(-1, 1));
        refused(KIND, y -> y.places(7, 1));
    }

    public static void main(String[] args) throws Exception {
        runAll(OrderSentencesTest.class, 8, 12);
    }
}
