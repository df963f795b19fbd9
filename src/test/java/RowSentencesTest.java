/** Promises 41 to 46, and what "Terms" 4 and 5 say of factors and images, sentence by sentence. */
public final class RowSentencesTest extends Sentences {
    private void tells(int... all) {
        tellAll(x, all);
    }

    /** The loop with its turn told to be taken twice at most: p 5, p 4, y 5 prove 15. */
    private void numberedLoop() {
        loop();
        x.turns(1, 2);
    }

    private static TickBound withRun(int... waiting) {
        TickBound y = rich();
        y.record();
        tellAll(y, waiting);
        return y;
    }

    // ---- 41: One more number waits: how many. FULL: 60 wait.

    void p41_60AtMost() {
        for (int i = 1; i <= 60; i++) {
            due(i, x.tell(i % 2 == 0 ? LOW : HIGH));
            due(i, x.count(5));
        }
        due(FULL, x.tell(0));
        due(60, x.count(5));
        x.check();
        due(1, x.tell(0));
    }

    void p41_fullChangesNothing() {
        Maker full = () -> {
            TickBound y = rich();
            for (int i = 8; i < 60; i++) {
                y.tell(i);
            }
            return y;
        };
        refused(full, FULL, y -> y.tell(7));
    }

    // ---- 42: The numbers that wait are FACTORS: p of each ORDER, then y of each TURN, by numbers: what they PROVE.

    void p42_whatTheyProve() {
        numberedLoop();
        tells(5, 4, 5);
        due(15, x.check());
        tells(100, 4, 100);
        due(300, x.check());
        x.turns(1, 0);
        tells(5, 4, 5);
        due(5, x.check());
        x.turns(1, 9);
        tells(5, 4, 5);
        due(50, x.check());
    }

    void p42_withoutOrders() {
        due(0, x.check());
        tells(7);
        due(NO, x.check());
        due(0, x.check());
    }

    /** "then y of each TURN, by numbers" */
    void p42_turnsByNumbers() {
        orders(BRANCH, 0, 0, 0, BRANCH, 0, 0, 0);
        x.turns(0, 2);
        x.turns(2, 3);
        tells(8, 4, 4, 8);
        due(8 + 4 * 2 + 8 * 3, x.check());
        tells(8, 4, 8, 4);
        due(-13, x.check());
        tells(8, 4, 3, 8);
        due(-11, x.check());
    }

    /** "p of k (and y of it, if it is a TURN) is COST and p of j (0 of THE END) or more" */
    void p42_eachEdgeHolds() {
        numberedLoop();
        // Edge 0: p0 >= 1 + p1; edge 1: p1 + y >= 4 + p0; edge 2: p1 >= 4.
        int[][] told = {{5, 4, 5}, {4, 4, 5}, {5, 4, 4}, {4, 3, 5}, {5, 3, 6}, {3, 3, 0}, {0, 0, 0}};
        int[] want = {15, -11, -12, -13, -13, -11, -11};
        for (int i = 0; i < told.length; i++) {
            tells(told[i]);
            due(want[i], x.check());
        }
    }

    /** "1 less than -10 less the first EDGE for which they don't hold (EDGE 0: -11)" */
    void p42_theFirstEdge() {
        for (int bad = 0; bad < 28; bad++) {
            fresh();
            plainOrders(28);
            // All up to the bad one are 1 too low, so that it alone has too little for the next one.
            for (int k = 0; k < 28; k++) {
                x.tell(k <= bad ? 27 - k : 28 - k);
            }
            due(-11 - bad, x.check());
        }
    }

    void p42_theStallCounts() {
        orders(LOAD, 1, 4, 0, ORDER, 1, 1, 0);
        tells(12, 1);
        due(-11, x.check());
        tells(13, 1);
        due(13, x.check());
    }

    /** "NO: they are not as many" */
    void p42_notAsMany() {
        numberedLoop();
        due(NO, x.check());
        tells(5, 4);
        due(NO, x.check());
        tells(5, 4, 5, 0);
        due(NO, x.check());
        tells(5, 4, 5);
        due(15, x.check());
    }

    void p42_asManyAsCanWait() {
        plainOrders(23);
        for (int k = 23; k < 27; k++) {
            x.order(BRANCH, 0, k, 0);
        }
        x.order(BACK, 0, 0, 0);
        x.places(27, ALL_PLACES);
        due(32, x.count(1));
        for (int e = 0; e < x.edges(); e++) {
            x.turns(e, 1);
        }
        int proved = x.proves();
        for (int k = 0; k < 28; k++) {
            x.tell(x.factor(k));
        }
        for (int e = 0; e < x.edges(); e++) {
            if (x.edge(e, 2) == 1) {
                x.tell(x.shares(e));
            }
        }
        due(60, x.count(5));
        due(proved, x.check());
        // One turn more, and they can never be as many.
        fresh();
        plainOrders(22);
        for (int k = 22; k < 27; k++) {
            x.order(BRANCH, 0, k, 0);
        }
        x.order(BACK, 0, 0, 0);
        x.places(27, ALL_PLACES);
        due(33, x.count(1));
        for (int i = 0; i < 60; i++) {
            x.tell(1000);
        }
        due(NO, x.check());
    }

    /** "or some y is below 0"; a p may be. */
    void p42_yIs0OrMore() {
        numberedLoop();
        tells(5, 4, -1);
        due(NO, x.check());
        tells(5, 4, LOW);
        due(NO, x.check());
        orders(BRANCH, 0, 0, 0);
        x.turns(1, 0);
        x.turns(3, 0);
        tells(9, 8, 4, 5, -1);
        due(NO, x.check());
        tells(9, 8, 4, 5, 9);
        due(9, x.check());
        // Nothing leads to the end, so that the factor of order 0 may be below 0.
        fresh();
        orders(CALL, 0, 0, 0);
        x.turns(0, 3);
        tells(-6, 2);
        due(0, x.check());
        tells(-5, 2);
        due(1, x.check());
        tells(0, 0);
        due(-11, x.check());
        tells(0, 2);
        due(6, x.check());
    }

    /** "NONE: a TURN has no number", asked behind NO. */
    void p42_noneIfATurnHasNoNumber() {
        loop();
        tells(5, 4, 5);
        due(NONE, x.check());
        tells(0, 0, 0);
        due(NONE, x.check());
        tells(5, 4);
        due(NO, x.check());
        tells(5, 4, -1);
        due(NO, x.check());
        // Even one to which nothing leads.
        fresh();
        orders(CALL, 0, 2, 0, CALL, 0, 1, 0, ORDER, 0, 0, 0);
        tells(3, 0, 1, 2);
        due(NONE, x.check());
        x.turns(1, 0);
        tells(3, 0, 1, 2);
        due(3, x.check());
    }

    /** "(Sums beyond 2000000000 or below 0: KIND.)" */
    void p42_leastAndGreatestSum() {
        orders(ORDER, 0, 0, 0);
        tells(2000000000);
        due(2000000000, x.check());
        tells(2000000001);
        due(KIND, x.check());
        tells(HIGH);
        due(KIND, x.check());
        tells(1);
        due(1, x.check());
        numberedLoop();
        tells(1999999990, 1999999989, 5);
        due(2000000000, x.check());
        tells(1999999991, 1999999990, 5);
        due(KIND, x.check());
        fresh();
        orders(CALL, 0, 0, 0);
        x.turns(0, 3);
        tells(-6, 2);
        due(0, x.check());
        tells(-7, 2);
        due(KIND, x.check());
        tells(LOW, 2);
        due(KIND, x.check());
    }

    /** Sums and products that would wrap around an int. */
    void p42_sumsThatWrapAround() {
        numberedLoop();
        // 2 times HIGH would be -2, 4 times 2 to the power of 30 would be 0.
        tells(5, 4, HIGH);
        due(KIND, x.check());
        x.turns(1, 4);
        tells(5, 4, 1 << 30);
        due(KIND, x.check());
        tells(5, 4, 499999998);
        due(5 + 4 * 499999998, x.check());
        tells(5, 4, 499999999);
        due(KIND, x.check());
        // p1 and y beyond HIGH are no less than 4 and p0.
        x.turns(1, 0);
        tells(5, 4, HIGH);
        due(5, x.check());
        // 1 and p1 beyond HIGH are more than p0.
        tells(5, HIGH, 0);
        due(-11, x.check());
        tells(HIGH, HIGH, 0);
        due(-11, x.check());
        // p1 and y below LOW would be great.
        tells(5, LOW, 0);
        due(-12, x.check());
        x.turns(1, 9);
        tells(HIGH, HIGH - 1, HIGH);
        due(KIND, x.check());
    }

    /** An edge that does not hold goes ahead of a sum too great. */
    void p42_anEdgeGoesAheadOfTheSum() {
        numberedLoop();
        tells(HIGH, 3, HIGH);
        due(-12, x.check());
        tells(HIGH, 3, HIGH - 1);
        due(-12, x.check());
        tells(HIGH - 1, 3, HIGH);
        due(-13, x.check());
    }

    /** "(none do then, whatever is answered)" */
    void p42_noneWaitThen() {
        int[][] told = {{5, 4, 5}, {5, 4, 4}, {5, 4}, {5, 4, -1}, {HIGH, 4, HIGH}, {}};
        int[] want = {15, -12, NO, NO, KIND, NO};
        for (int i = 0; i < told.length; i++) {
            numberedLoop();
            tells(told[i]);
            due(want[i], x.check());
            due(0, x.count(5));
        }
        loop();
        tells(5, 4, 5);
        due(NONE, x.check());
        due(0, x.count(5));
        for (int i = 0; i < 60; i++) {
            x.tell(i);
        }
        due(NO, x.check());
        due(0, x.count(5));
        due(1, x.tell(0));
    }

    void p42_refusedChangesNothingButTheNumbers() {
        Maker none = () -> withRun();
        same(none, y -> NO, () -> withRun(1, 2), y -> y.check());
        same(none, y -> -11, () -> withRun(0, 0, 0, 0, 0, 0, 0, 0, 0, 0, 0), y -> y.check());
        same(none, y -> NO, () -> withRun(0, 0, 0, 0, 0, 0, 0, 0, 0, 0, -1), y -> y.check());
        same(() -> {
            TickBound y = withRun();
            y.turns(3, NONE);
            return y;
        }, y -> NONE, () -> {
            TickBound y = withRun(0, 0, 0, 0, 0, 0, 0, 0, 0, 0, 0);
            y.turns(3, NONE);
            return y;
        }, y -> y.check());
    }

    // ---- 43: The numbers that wait are steps of the latest RUN, two by two (the order, TICKS up to it): 0

    void p43_steps() {
        loop();
        x.run(0);
        tells(0, 1, 1, 5, 0, 6, 1, 10, 0, 11, 1, 12);
        due(0, x.record());
    }

    /** "fewer than all are fine" */
    void p43_fewerAreFine() {
        loop();
        x.run(0);
        int[] all = {0, 1, 1, 5, 0, 6, 1, 10, 0, 11, 1, 12};
        for (int many = 0; many <= 12; many++) {
            for (int i = 0; i < many; i++) {
                x.tell(all[i]);
            }
            due(0, x.record());
        }
    }

    /** "else 1 and how many stand right ahead of the first that is not" */
    void p43_theFirstThatIsNot() {
        loop();
        x.run(0);
        int[] all = {0, 1, 1, 5, 0, 6, 1, 10, 0, 11, 1, 12};
        for (int bad = 0; bad < 12; bad++) {
            for (int i = 0; i < 12; i++) {
                x.tell(i < bad ? all[i] : all[i] + 1);
            }
            due(1 + bad, x.record());
        }
        tells(LOW);
        due(1, x.record());
        tells(0, HIGH);
        due(2, x.record());
    }

    /** "(or is one too many)" */
    void p43_oneTooMany() {
        loop();
        x.run(0);
        tells(0, 1, 1, 5, 0, 6, 1, 10, 0, 11, 1, 12, 0);
        due(13, x.record());
        tells(0, 1, 1, 5, 0, 6, 1, 10, 0, 11, 1, 12, 2, 12);
        due(13, x.record());
        // Of a longer run ahead of this one nothing is left.
        x.run(0);
        x.clear();
        orders(BRANCH, 0, 0, 1);
        x.run(0);
        x.run(1);
        tells(0, 1, 0, 2);
        due(3, x.record());
        // A run without orders has no steps.
        x.clear();
        x.run(0);
        due(0, x.record());
        tells(0);
        due(1, x.record());
    }

    void p43_asManyAsCanWait() {
        orders(CALL, 1, 0, 0);
        x.run(0);
        for (int i = 1; i <= 30; i++) {
            tells(0, 2 * i);
        }
        due(0, x.record());
        for (int i = 1; i <= 30; i++) {
            tells(0, i < 30 ? 2 * i : 61);
        }
        due(60, x.record());
    }

    /** "NO as ran()" */
    void p43_noWithoutARun() {
        due(NO, x.record());
        tells(0, 1);
        due(NO, x.record());
        due(0, x.count(5));
        loop();
        x.run(0);
        x.clear();
        tells(0);
        due(NO, x.record());
        due(0, x.count(5));
    }

    /** "(none do then)" */
    void p43_noneWaitThen() {
        loop();
        x.run(0);
        tells(0, 1);
        due(0, x.record());
        due(0, x.count(5));
        tells(7);
        due(1, x.record());
        due(0, x.count(5));
        due(1, x.tell(0));
    }

    void p43_changesNothingButTheNumbers() {
        same(() -> withRun(), y -> 0, Sentences::rich, y -> y.record());
        same(() -> withRun(), y -> 1, () -> withRun(9), y -> y.record());
        Maker without = () -> {
            TickBound y = withRun();
            y.clear();
            return y;
        };
        same(without, y -> NO, () -> {
            TickBound y = withRun(1);
            y.clear();
            return y;
        }, y -> y.record());
    }

    // ---- 44: AN IMAGE is kept: the number of ORDERS.

    void p44_theNumberOfOrders() {
        due(0, x.keep());
        plainOrders(1);
        due(1, x.keep());
        plainOrders(27);
        due(28, x.keep());
        x.clear();
        due(28, x.back());
        due(28, x.count(0));
    }

    /** The image is as things were when it was kept, and the latest is the one. */
    void p44_theLatestOne() {
        orders(ORDER, 0, 0, 1);
        x.keep();
        orders(ORDER, 0, 0, 2);
        x.memory(0, 5);
        due(2, x.keep());
        orders(ORDER, 0, 0, 3);
        x.memory(0, 6);
        due(2, x.back());
        due(2, x.told(1, 3));
        due(5, x.memory(0, 0));
        due(2, x.back());
        due(5, x.memory(0, 0));
    }

    void p44_allIsAsBefore() {
        Maker kept = () -> {
            TickBound y = rich();
            y.keep();
            return y;
        };
        for (int view = 0; view < VIEWS - 1; view++) {
            due(view(rich(), view).toString(), view(kept.make(), view).toString());
        }
        due(9, kept.make().back());
    }

    // ---- 45: All that it keeps is as THE IMAGE: the number of ORDERS. NO: there is none.

    void p45_noWithoutAnImage() {
        due(NO, x.back());
        Maker none = () -> {
            TickBound y = new TickBound();
            tellOrders(y, LOAD, 1, 4, 0, BRANCH, 1, 0, 3);
            y.turns(1, 3);
            y.lock(2, 1);
            y.memory(1, 11);
            y.work(3, 30);
            y.run(1);
            y.tell(0);
            return y;
        };
        refused(none, NO, y -> y.back());
    }

    /** "AN IMAGE keeps THE MACHINE, ORDERS, places, numbers of TURNS, LOCKED LINES, MEMORY, WORKS" */
    void p45_allThatItKeeps() {
        TickBound y = rich();
        due(2, y.back());
        int[] machine = {1, 2, 0, 5, 3, 0, 4, 2, 2};
        for (int i = 0; i < 9; i++) {
            due(machine[i], y.is(i));
        }
        int[] counts = {2, 1, 1, 1, 1, 8, 15};
        for (int i = 0; i < 7; i++) {
            due(counts[i], y.count(i));
        }
        due(LONG, y.told(0, 0));
        due(BRANCH, y.told(1, 0));
        due(5, y.told(1, 3));
        due(3, y.edges());
        due(7, y.edge(1, 3));
        due(1, y.lock(9, 1));
        due(0, y.lock(3, 0));
        due(44, y.memory(4, 44));
        due(0, y.memory(5, 0));
        due(0, y.memory(31, 0));
        due(7, y.answer(0));
        due(BAD, y.answer(1));
        due((17 + 4) * 8, y.bound());
    }

    void p45_eachNumberOfEachOrder() {
        int[] all = {LOAD, 3, 4, 9, STORE, 2, 4, 8, LONG, 1, 2, 3, BRANCH, 2, 9, -7, LOAD, 0, 4, 9};
        orders(all);
        due(2, x.told(1, 6));
        due(1, x.told(4, 6));
        x.keep();
        x.clear();
        orders(ORDER, 0, 0, 1, LOAD, 1, 1, 2, STORE, 0, 4, 30, BACK, 3, 0, 0, ORDER, 2, 1, 1, ORDER, 0, 0, 0);
        due(5, x.back());
        for (int i = 0; i < all.length; i++) {
            due(all[i], x.told(i / 4, i % 4));
        }
        int[] tells = {1, 0, NONE, NONE, 0};
        for (int k = 0; k < 5; k++) {
            due(tells[k], x.told(k, 7));
        }
        due(1 << 4, x.locks(8, 1));
    }

    void p45_works() {
        x.work(3, 30);
        x.work(4, 40);
        x.work(5, 50);
        x.keep();
        x.work(6, 60);
        due(18, x.answer(3));
        x.back();
        due(3, x.answer(0));
        due(7, x.answer(1));
        due(12, x.answer(2));
        due(BAD, x.answer(3));
        due(3, x.work(7, 70));
        due(19, x.answer(3));
    }

    void p45_placesAndNumbersOfTurns() {
        orders(BRANCH, 1, 0, 9, BACK, 1, 0, 0);
        x.places(1, 0b111);
        x.turns(0, 4);
        x.turns(2, 5);
        x.keep();
        x.places(1, ALL_PLACES);
        x.turns(3, 9);
        due(2, x.back());
        due(0b111, x.told(1, 4));
        due(4, x.edge(0, 3));
        due(5, x.edge(2, 3));
        due(NONE, x.edge(3, 3));
        due(2, x.count(2));
    }

    /** "again and again": what comes behind does not change the image. */
    void p45_againAndAgain() {
        orders(BACK, 0, 0, 0);
        x.places(0, 0b11);
        x.turns(0, 6);
        x.memory(9, 99);
        x.lock(9, 1);
        x.work(9, 90);
        machine("miss 9");
        x.keep();
        for (int i = 0; i < 3; i++) {
            x.turns(0, i);
            x.memory(9, i);
            x.lock(9, 0);
            x.work(1, 1);
            machine("miss 8");
            x.places(0, 0);
            orders(ORDER, 0, 0, 0);
            due(1, x.back());
            due(6, x.edge(0, 3));
            due(99, x.memory(9, 0));
            due(1, x.lock(9, 0));
            due(1, x.count(4));
            due(9, x.is(3));
            due(3, x.told(0, 4));
        }
    }

    /** "what the latest RUN told goes" */
    void p45_whatTheRunToldGoes() {
        loop();
        x.keep();
        x.run(0);
        due(0, x.ran(12));
        x.back();
        due(NO, x.ran(12));
    }

    /** Tape, numbers that wait, sheets and slots are none of it. */
    void p45_allElseStays() {
        Maker back = () -> {
            TickBound y = rich();
            y.back();
            return y;
        };
        TickBound y = back.make();
        due(15, y.count(6));
        due(2, y.machine());
        due(30, y.is(3));
        due(8, y.count(5));
        due(view(rich(), 4).toString(), view(back.make(), 4).toString());
        y = back.make();
        due(1, y.lay(0, 0, 0));
        due(HIGH, y.item(1, 0));
        due(3, y.lay(2, 0, 0));
        due(LOW, y.item(3, 1));
    }

    void p45_ofNoOrders() {
        x.keep();
        orders(ORDER, 0, 0, 0);
        x.work(1, 1);
        x.lock(1, 1);
        due(0, x.back());
        due(0, x.count(0));
        due(0, x.count(3));
        due(0, x.count(4));
        due(0, x.edges());
        due(0, x.bound());
    }

    /** Bounds are those of the image at once. */
    void p45_boundsAreOfTheImage() {
        loads("", 0, 1);
        due(22, x.bound());
        x.keep();
        x.lock(0, 1);
        due(12, x.bound());
        due(1, x.told(0, 6));
        x.back();
        due(22, x.bound());
        due(11, x.told(0, 6));
        due(0, x.way(0));
    }

    // ---- 46: How many: 0 ORDERS .. 6 bytes of THE TAPE. BAD.

    void p46_none() {
        for (int what = 0; what < 7; what++) {
            due(0, x.count(what));
        }
    }

    void p46_asManyAsCanBe() {
        for (int k = 0; k < 28; k++) {
            x.order(BACK, 0, 0, 0);
        }
        for (int k = 0; k < 28; k++) {
            x.places(k, ALL_PLACES);
        }
        x.turns(0, 0);
        x.turns(811 - 1, 9);
        for (int line = 0; line < 16; line++) {
            x.lock(line, 1);
        }
        for (int i = 0; i < 8; i++) {
            x.work(1, 1);
        }
        for (int i = 0; i < 60; i++) {
            x.tell(0);
        }
        for (int i = 0; i < 8; i++) {
            x.feed(0, 0, 0);
        }
        int[] want = {28, 406, 2, 16, 8, 60, 96};
        for (int what = 0; what < 7; what++) {
            due(want[what], x.count(what));
        }
    }

    void p46_each() {
        TickBound y = rich();
        int[] want = {9, 2, 2, 2, 2, 8, 15};
        for (int what = 0; what < 7; what++) {
            due(want[what], y.count(what));
        }
        y.turns(3, NONE);
        due(2, y.count(1));
        due(1, y.count(2));
        y.turns(10, 0);
        due(1, y.count(2));
    }

    void p46_bad() {
        for (int what : new int[] {-1, 7, LOW, HIGH}) {
            due(BAD, x.count(what));
        }
        refused(BAD, y -> y.count(-1));
        refused(BAD, y -> y.count(7));
    }

    public static void main(String[] args) throws Exception {
        runAll(RowSentencesTest.class, 41, 46);
    }
}
