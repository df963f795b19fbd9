/** Promises 13 to 16, and what "Terms" 1 to 3 say of runs, ticks and the cache, sentence by sentence. */
public final class RunSentencesTest extends Sentences {
    /** A run ends so, and such are registers 0 .. 3 then. */
    private void ends(int by, int input, int... registers) {
        due(by, x.run(input));
        due(by, x.ran(12));
        for (int i = 0; i < registers.length; i++) {
            due(registers[i], x.ran(6 + i));
        }
    }

    /** Ticks of the step alone. */
    private int ticksOf(int step) {
        return x.step(step, 1) - (step > 0 ? x.step(step - 1, 1) : 0);
    }

    // ---- 13: A RUN with an input: by what it ENDS.

    /** "A RUN with an input i: register 0 is i, the others 0" */
    void p13_registersAtItsStart() {
        for (int input : new int[] {0, 1, -1, HIGH, LOW}) {
            ends(0, input, input, 0, 0, 0);
        }
    }

    void p13_withoutOrdersItEndsAtOnce() {
        ends(0, 5);
        due(0, x.ran(0));
        due(0, x.ran(1));
        due(0, x.ran(11));
        due(NONE, x.step(0, 0));
    }

    void p13_registersAndCacheBeginAnewInEachRun() {
        orders(ORDER, 1, 1, 1, LOAD, 2, 4, 0);
        for (int i = 0; i < 3; i++) {
            ends(0, i, i, 1, 0, 0);
            due(1, x.ran(3));
            due(12, x.ran(0));
        }
    }

    void p13_orderAddsAndWraps() {
        orders(ORDER, 0, 0, 1);
        ends(0, HIGH, LOW);
        ends(0, -1, 0);
        x.clear();
        orders(ORDER, 3, 0, -999);
        ends(0, LOW, LOW, 0, 0, HIGH - 998);
        ends(0, 999, 999, 0, 0, 0);
        x.clear();
        orders(ORDER, 1, 0, 999);
        ends(0, HIGH - 998, HIGH - 998, LOW, 0, 0);
    }

    void p13_loadAndStoreMoveWords() {
        x.memory(0, HIGH);
        x.memory(31, LOW);
        orders(LOAD, 1, 4, 0, LOAD, 2, 4, 31, STORE, 0, 4, 31, LOAD, 3, 4, 31);
        ends(0, 77, 77, HIGH, LOW, 77);
    }

    /** "2 BEYOND: an ADDRESS that is none of 0 .. 31" */
    void p13_beyond() {
        for (int kind = LOAD; kind <= STORE; kind++) {
            fresh();
            x.order(kind, 1, 0, 0);
            due(0, x.run(0));
            due(0, x.run(31));
            for (int input : new int[] {-1, 32, 33, 64, LOW, HIGH}) {
                due(2, x.run(input));
            }
            x.clear();
            x.order(kind, 1, 0, 999);
            due(0, x.run(-999));
            due(0, x.run(-968));
            // HIGH wraps far below 0.
            for (int input : new int[] {-1000, -967, HIGH, LOW}) {
                due(2, x.run(input));
            }
            x.clear();
            x.order(kind, 1, 0, -999);
            due(0, x.run(999));
            due(0, x.run(1030));
            for (int input : new int[] {998, 1031, LOW, HIGH}) {
                due(2, x.run(input));
            }
        }
    }

    /** "or with b 4 just c" */
    void p13_withB4TheAddressIsJustC() {
        x.memory(9, 90);
        orders(LOAD, 1, 4, 9);
        ends(0, HIGH, HIGH, 90, 0, 0);
    }

    /** "if register a is below c to order b, else on" */
    void p13_branch() {
        orders(BRANCH, 0, 2, 5, ORDER, 1, 1, 1, ORDER, 2, 2, 1);
        ends(0, 4, 4, 0, 1, 0);
        ends(0, 5, 5, 1, 1, 0);
        ends(0, LOW, LOW, 0, 1, 0);
        ends(0, HIGH, HIGH, 1, 1, 0);
        x.clear();
        orders(BRANCH, 0, 2, -999, ORDER, 1, 1, 1);
        ends(0, -1000, -1000, 0, 0, 0);
        ends(0, -999, -999, 1, 0, 0);
        x.clear();
        orders(BRANCH, 0, 2, 999, ORDER, 1, 1, 1);
        ends(0, 998, 998, 0, 0, 0);
        ends(0, 999, 999, 1, 0, 0);
    }

    /** "CALL: register a becomes its own number and 1; to order b" */
    void p13_call() {
        orders(CALL, 1, 2, 0, ORDER, 3, 3, 1, CALL, 2, 9, 0);
        ends(0, 0, 0, 1, 3, 0);
        due(2, x.ran(1));
        due(3, x.ran(11));
        fresh();
        plainOrders(27);
        x.order(CALL, 3, 28, 0);
        ends(0, 0, 0, 0, 0, 28);
        due(28, x.ran(11));
    }

    /** "BACK: to the order whose number register a has" */
    void p13_back() {
        orders(CALL, 1, 3, 0, ORDER, 2, 2, 5, CALL, 0, 4, 0, BACK, 1, 0, 0);
        x.places(3, 1 << 1);
        ends(0, 0, 3, 1, 5, 0);
        due(4, x.ran(1));
    }

    /** "3 STRAY: a BACK to a number that is no told place of it" */
    void p13_stray() {
        orders(BACK, 0, 0, 0);
        for (int input : new int[] {0, 1, 28, -1}) {
            due(3, x.run(input));
        }
        x.places(0, 1 << 1 | 1 << 28);
        due(0, x.run(1));
        due(0, x.run(28));
        // A number that wraps around to a told bit is none.
        for (int input : new int[] {0, 2, 27, 29, 33, 60, 65, -1, -31, -4, LOW, LOW + 1, HIGH}) {
            due(3, x.run(input));
        }
        x.places(0, ALL_PLACES);
        due(4, x.run(0));
        for (int input : new int[] {-1, 29, 30, 31, 32, 64, LOW, HIGH}) {
            due(3, x.run(input));
        }
    }

    /** "LONG: register a becomes register b times register c." "Ints wrap." */
    void p13_longWraps() {
        orders(LONG, 1, 0, 0);
        ends(0, 65536, 65536, 0, 0, 0);
        ends(0, HIGH, HIGH, 1, 0, 0);
        ends(0, LOW, LOW, 0, 0, 0);
        ends(0, 46341, 46341, 46341 * 46341, 0, 0);
        ends(0, -3, -3, 9, 0, 0);
    }

    /** "PARTS: register a becomes register b / register c."; "/ cuts towards 0" */
    void p13_partsCutTowards0() {
        orders(ORDER, 1, 1, 2, PARTS, 2, 0, 1, ORDER, 1, 1, -4, PARTS, 3, 0, 1);
        ends(0, 7, 7, -2, 3, -3);
        ends(0, -7, -7, -2, -3, 3);
        ends(0, 1, 1, -2, 0, 0);
        x.clear();
        orders(ORDER, 1, 1, -1, PARTS, 2, 0, 1);
        ends(0, LOW, LOW, -1, LOW, 0);
        ends(0, HIGH, HIGH, -1, -HIGH, 0);
    }

    /** "1 ZERO: PARTS by 0" */
    void p13_zero() {
        orders(PARTS, 1, 0, 1);
        due(1, x.run(9));
        due(1, x.run(0));
        x.clear();
        orders(PARTS, 1, 1, 0);
        due(1, x.run(0));
        due(0, x.run(1));
        due(0, x.run(LOW));
        x.clear();
        orders(LONG, 1, 0, 1);
        due(0, x.run(9));
    }

    /** "(The order by which it ENDS with 1 .. 3 does nothing and takes 1 tick alone.)" */
    void p13_theOrderByWhichItEndsDoesNothing() {
        int[][] last = {{PARTS, 3, 3, 1}, {LOAD, 3, 1, 32}, {STORE, 1, 1, -1}, {BACK, 1, 0, 0}};
        int[] by = {1, 2, 2, 3};
        for (int i = 0; i < 4; i++) {
            fresh();
            machine("stall 9 long 9 miss 20");
            orders(ORDER, 3, 3, 5, LOAD, 1, 4, 0);
            x.order(last[i][0], last[i][1], last[i][2], last[i][3]);
            ends(by[i], 8, 8, 0, 0, 5);
            due(1 + 21 + 1, x.ran(0));
            due(3, x.ran(1));
            due(0, x.ran(2));
            due(1, x.ran(3));
            due(0, x.ran(5));
            due(2, x.ran(11));
            due(2, x.step(2, 0));
            due(23, x.step(2, 1));
            due(NONE, x.step(3, 0));
        }
    }

    /** "0 as it comes to the number behind the last ORDER, or beyond" */
    void p13_theEndOrBeyond() {
        for (int b : new int[] {1, 2, 28}) {
            fresh();
            x.order(BRANCH, 0, b, 1);
            due(0, x.run(0));
            due(1, x.ran(11));
            due(0, x.run(1));
            due(1, x.ran(11));
            x.clear();
            x.order(CALL, 0, b, 0);
            due(0, x.run(0));
            due(1, x.ran(11));
        }
        x.clear();
        x.order(BACK, 0, 0, 0);
        x.places(0, 1 << 1 | 1 << 17);
        due(0, x.run(1));
        due(1, x.ran(11));
        due(0, x.run(17));
        due(1, x.ran(11));
    }

    /** "4 ENDLESS: behind 600 orders." */
    void p13_endlessBehind600Orders() {
        // 1 and 2 for each number from the input to 299.
        orders(ORDER, 1, 1, 0, ORDER, 0, 0, 1, BRANCH, 0, 1, 300);
        due(0, x.run(1));
        due(599, x.ran(1));
        due(4, x.run(0));
        due(600, x.ran(1));
        due(2, x.ran(11));
        x.clear();
        orders(ORDER, 0, 0, 1, BRANCH, 0, 0, 300);
        due(0, x.run(0));
        due(600, x.ran(1));
        due(2, x.ran(11));
        due(4, x.run(-1));
        due(600, x.ran(1));
        due(0, x.ran(11));
    }

    void p13_the600thOrderMayEndItOtherwise() {
        orders(ORDER, 1, 1, 0, ORDER, 0, 0, 1, BRANCH, 0, 1, 300, PARTS, 1, 0, 1);
        due(1, x.run(1));
        due(600, x.ran(1));
        due(3, x.ran(11));
        due(4, x.run(0));
    }

    /** "MEMORY is as before then." */
    void p13_memoryIsAsBefore() {
        int[][] last = {{ORDER, 0, 0, 0}, {PARTS, 0, 0, 1}, {LOAD, 0, 1, 32}, {BACK, 1, 0, 0}, {CALL, 2, 0, 0}};
        for (int i = 0; i < 5; i++) {
            fresh();
            x.memory(3, 30);
            orders(STORE, 0, 4, 3);
            x.order(last[i][0], last[i][1], last[i][2], last[i][3]);
            due(i, x.run(99));
            due(30, x.memory(3, 30));
        }
    }

    void p13_allElseStays() {
        same(() -> {
            TickBound y = rich();
            return y;
        }, y -> 0, () -> {
            TickBound y = rich();
            y.run(7);
            return y;
        }, y -> y.run(2));
    }

    // ---- 13, "TICKS of an order in a RUN"

    void p13_ticksOfOrderCallBack() {
        orders(ORDER, 0, 0, 0, CALL, 1, 2, 0, BACK, 1, 0, 0);
        x.places(2, 1 << 2);
        x.run(0);
        due(1, ticksOf(0));
        due(2, ticksOf(1));
        due(2, ticksOf(2));
    }

    void p13_ticksOfLoadAndStore() {
        machine("miss 7");
        orders(LOAD, 1, 4, 0, LOAD, 1, 4, 1, STORE, 2, 4, 0, STORE, 2, 4, 2, LOAD, 1, 4, 3);
        x.run(0);
        int[] want = {8, 1, 2, 9, 1};
        for (int i = 0; i < 5; i++) {
            due(want[i], ticksOf(i));
        }
    }

    void p13_missOf0And99() {
        loads("miss 0", 0, 0);
        x.run(0);
        due(2, x.ran(0));
        due(1, x.ran(2));
        due(1, x.ran(3));
        loads("miss 99", 0, 0);
        x.run(0);
        due(101, x.ran(0));
    }

    /** "LONG: and LONG times how many of the lowest 8 bits of register c are 1; PARTS: as LONG, and 2." */
    void p13_ticksOfLongAndPartsHangOnRegisterC() {
        int[] inputs = {1, 2, 127, 128, 255, 256, 257, 0x1ff, -1, -2, -256, -255, LOW, HIGH, 0x10000};
        int[] bits = {1, 1, 7, 1, 8, 0, 1, 8, 8, 7, 0, 1, 0, 8, 0};
        for (int n = 0; n <= 9; n += 9) {
            fresh();
            machine("long " + n);
            orders(LONG, 1, 2, 0, PARTS, 1, 2, 0, LONG, 1, 0, 2);
            for (int i = 0; i < inputs.length; i++) {
                due(0, x.run(inputs[i]));
                due(1 + n * bits[i], ticksOf(0));
                due(3 + n * bits[i], ticksOf(1));
                due(1, ticksOf(2));
            }
        }
    }

    void p13_registerCIsReadAheadOfWhatItBecomes() {
        machine("long 5");
        orders(LONG, 0, 1, 0, LONG, 0, 0, 0);
        ends(0, 7, 0, 0, 0, 0);
        due(16, ticksOf(0));
        due(1, ticksOf(1));
    }

    /** "BRANCH (itself): and WRONG, if it goes otherwise than guessed: NEVER: on; ALWAYS: to b" */
    void p13_neverAndAlways() {
        for (int wrong = 0; wrong <= 9; wrong += 9) {
            for (int always = 0; always < 2; always++) {
                fresh();
                machine("wrong " + wrong + " guess " + (always == 1 ? "always" : "never"));
                orders(BRANCH, 0, 2, 5, ORDER, 1, 1, 1);
                x.run(4);
                due(1 - always, x.ran(4));
                due(1 + wrong * (1 - always), ticksOf(0));
                x.run(5);
                due(always, x.ran(4));
                due(1 + wrong * always, ticksOf(0));
            }
        }
    }

    /** A choice: to b and on are two things for the guesser, even where they lead to one order. */
    void p13_toBIsNotOnForTheGuesser() {
        orders(BRANCH, 0, 1, 5, ORDER, 1, 1, 1);
        x.run(4);
        due(1, x.ran(4));
        due(4, ticksOf(0));
        x.run(5);
        due(0, x.ran(4));
        machine("guess always");
        x.run(4);
        due(0, x.ran(4));
        x.run(5);
        due(1, x.ran(4));
    }

    /** "LAST: as it went last in this RUN (on, if never)" */
    void p13_last() {
        machine("guess last wrong 5");
        // The branch goes to 0 twice, then on.
        orders(ORDER, 1, 1, 1, BRANCH, 1, 0, 3);
        int[] want = {1, 6, 1, 1, 1, 6};
        for (int round = 0; round < 2; round++) {
            x.run(0);
            for (int i = 0; i < 6; i++) {
                due(want[i], ticksOf(i));
            }
            due(2, x.ran(4));
        }
        x.run(0);
        due(16, x.ran(0));
    }

    void p13_lastIsOfEachBranchAndOfThisRun() {
        machine("guess last");
        // 0 goes to 2 at first, later on; 3 goes to 0 three times, then on.
        orders(BRANCH, 1, 2, 1, ORDER, 3, 3, 1, ORDER, 1, 1, 1, BRANCH, 1, 0, 4);
        x.run(0);
        // 0: wrong, wrong, right, right; 3: wrong, right, right, wrong.
        due(4, x.ran(4));
        x.run(0);
        due(4, x.ran(4));
    }

    /** Behind a time that it went on it is guessed to go on, wherever it stands. */
    void p13_lastBehindATimeItWentOn() {
        machine("guess last wrong 7");
        // Order 2 goes to 4 while register 1 is below 2, and on when it is 2, whereby it is 0 again.
        orders(ORDER, 1, 1, 1, ORDER, 3, 3, 0, BRANCH, 1, 4, 2, ORDER, 1, 1, -2, ORDER, 2, 2, 1, BRANCH, 2, 0, 4);
        x.run(0);
        // Register 1 at order 2: 1, 2, 1, 2.
        int[] step = {0, 1, 2, 4, 5, 0, 1, 2, 3, 4, 5, 0, 1, 2, 4, 5, 0, 1, 2, 3, 4, 5};
        int[] ticks = {1, 1, 8, 1, 8, 1, 1, 8, 1, 1, 1, 1, 1, 8, 1, 1, 1, 1, 8, 1, 1, 8};
        for (int i = 0; i < step.length; i++) {
            due(step[i], x.step(i, 0));
            due(ticks[i], ticksOf(i));
        }
        due(6, x.ran(4));
    }

    /** "CALL, BACK: and 1": they are no BRANCH itself, and never wrong. */
    void p13_callAndBackAreNeverWrong() {
        for (String guess : new String[] {"never", "always", "last"}) {
            fresh();
            machine("wrong 9 guess " + guess);
            orders(CALL, 1, 1, 0, BACK, 0, 0, 0);
            x.places(1, 1 << 2);
            due(0, x.run(2));
            due(4, x.ran(0));
            due(0, x.ran(4));
        }
    }

    /** "and STALL, if the one ahead was a LOAD (no STORE) whose register a it reads" and "It READS: ..." */
    void p13_stallBehindALoadThatItReads() {
        int[][] behind = {{ORDER, 0, 1, 2}, {LOAD, 0, 1, 2}, {LOAD, 0, 4, 2}, {STORE, 0, 1, 2}, {STORE, 0, 4, 2},
                {BRANCH, 0, 2, 3}, {CALL, 0, 2, 0}, {BACK, 0, 0, 0}, {LONG, 0, 1, 2}, {PARTS, 0, 1, 2}};
        int[] reads = {0b10, 0b10, 0, 0b11, 0b1, 0b1, 0, 0b1, 0b110, 0b110};
        for (int i = 0; i < behind.length; i++) {
            for (int register = 0; register < 4; register++) {
                fresh();
                machine("stall 5 miss 0 wrong 0 long 0");
                x.memory(0, 2);
                orders(ORDER, 2, 2, 2, LOAD, register, 4, 0);
                x.order(behind[i][0], behind[i][1], behind[i][2], behind[i][3]);
                if (behind[i][0] == BACK) {
                    x.places(2, 1 << 3);
                    x.memory(0, 3);
                }
                if (behind[i][0] == CALL) {
                    x.order(ORDER, 3, 3, 0);
                }
                x.run(3);
                int stall = reads[i] >> register & 1;
                due(stall, x.ran(5));
                int alone = behind[i][0] == PARTS ? 3 : behind[i][0] == STORE || behind[i][0] >= CALL
                        && behind[i][0] != LONG ? 2 : 1;
                if (x.ran(12) == 0) {
                    due(alone + 5 * stall, ticksOf(2));
                }
            }
        }
    }

    void p13_noStallBehindAStoreNorTwoBehindALoad() {
        machine("stall 9 miss 0");
        orders(STORE, 1, 4, 0, ORDER, 0, 1, 0, LOAD, 1, 4, 0, ORDER, 2, 2, 0, ORDER, 0, 1, 0);
        x.run(0);
        due(0, x.ran(5));
        due(6, x.ran(0));
    }

    /** The one ahead is that of the run, not the one with the number before. */
    void p13_noStallBehindALoadThatWasNotTheOneAhead() {
        machine("stall 9 miss 0");
        orders(CALL, 2, 2, 0, LOAD, 1, 4, 0, ORDER, 1, 1, 1);
        x.run(0);
        due(0, x.ran(5));
        due(3, x.ran(0));
        // Order 0 is come to behind a LOAD only if the run went there from one.
        fresh();
        machine("stall 9 miss 0");
        orders(ORDER, 1, 1, 1, LOAD, 1, 4, 0);
        x.run(0);
        due(0, x.ran(5));
    }

    /** Nothing is ahead of the first order, not even itself. */
    void p13_noStallOfTheFirstOrder() {
        machine("stall 9 miss 0");
        orders(LOAD, 0, 0, 0, LOAD, 0, 0, 0);
        x.run(0);
        due(1, x.ran(5));
        due(1, ticksOf(0));
        due(10, ticksOf(1));
    }

    void p13_hitsMissesWrongsAndStallsAreOfThisRun() {
        orders(LOAD, 1, 4, 0, STORE, 1, 4, 0, BRANCH, 1, 0, -5, BRANCH, 1, 28, 1);
        for (int i = 0; i < 3; i++) {
            x.run(0);
            int[] want = {11 + 3 + 1 + 4, 4, 1, 1, 1, 1};
            for (int what = 0; what < want.length; what++) {
                due(want[what], x.ran(what));
            }
        }
    }

    void p13_stallOf0IsAStall() {
        machine("stall 0 miss 0");
        orders(LOAD, 1, 4, 0, ORDER, 1, 1, 1, LOAD, 1, 4, 0, LOAD, 1, 1, 0);
        x.run(0);
        due(2, x.ran(5));
        due(4, x.ran(0));
    }

    // ---- 13, "THE CACHE (empty as a run begins) has WAYS places in each SET."

    void p13_cacheEmptyAsARunBegins() {
        loads("ways 4", 0, 1, 2, 0);
        due("mmmh", asked());
        due("mmmh", asked());
    }

    /** "by AGE the one asked longest ago" */
    void p13_byAge() {
        due("mhmhm", asked("ways 1", 0, 0, 1, 1, 0));
        due("mmhmhm", asked("ways 2", 0, 1, 0, 2, 0, 1));
        due("mmmmhmm", asked("ways 4", 0, 1, 2, 3, 0, 4, 1));
        due("mmmmhmhhhh", asked("ways 4", 0, 1, 2, 3, 0, 4, 0, 2, 3, 4));
    }

    /** "by TURN the one that came longest ago" */
    void p13_byTurn() {
        due("mhmhm", asked("rule turn ways 1", 0, 0, 1, 1, 0));
        due("mmhmmm", asked("rule turn ways 2", 0, 1, 0, 2, 0, 1));
        due("mmmmhmm", asked("rule turn ways 4", 0, 1, 2, 3, 0, 4, 0));
        due("mmmmhmhhhh", asked("rule turn ways 4", 0, 1, 2, 3, 0, 4, 1, 2, 3, 4));
    }

    /** "TREE: with 1 WAY that one; with 2 WAYS one bit tells the place" */
    void p13_byTreeOf1And2() {
        due("mhmhm", asked("rule tree ways 1", 0, 0, 1, 1, 0));
        due("mmhmhm", asked("rule tree ways 2", 0, 1, 0, 2, 0, 1));
        due("mmmhmm", asked("rule tree ways 2", 0, 1, 2, 1, 3, 2));
        due("mmmhmm", asked("rule tree ways 2", 0, 1, 2, 2, 0, 1));
        due("mmmhhm", asked("rule tree ways 2", 0, 1, 2, 2, 1, 0));
    }

    /** "with 4 a first bit tells the half, and one bit of each half the place in it" */
    void p13_byTreeOf4() {
        // 4 goes to place 0, 5 to 2, 6 to 1, 7 to 3.
        due("mmmmmmhhhh", asked("rule tree ways 4", 0, 1, 2, 3, 4, 5, 1, 3, 4, 5));
        due("mmmmmmmmhhhh", asked("rule tree ways 4", 0, 1, 2, 3, 4, 5, 6, 7, 4, 5, 6, 7));
        due("mmmmmm" + "mmmm", asked("rule tree ways 4", 0, 1, 2, 3, 4, 5, 0, 2, 1, 3));
        // Asking 0 again turns the first bit, so that 2 goes and not 1.
        due("mmmmhmh", asked("rule tree ways 4", 0, 1, 2, 3, 0, 4, 1));
        due("mmmmhmm", asked("rule tree ways 4", 0, 1, 2, 3, 0, 4, 2));
        // Asking 2 again turns its half's bit to 3: 4 goes to place 0, 5 to place 3.
        due("mmmmhmmh", asked("rule tree ways 4", 0, 1, 2, 3, 2, 4, 5, 2));
        due("mmmmhmmm", asked("rule tree ways 4", 0, 1, 2, 3, 2, 4, 5, 3));
    }

    /** "(all 0 as a run begins)": of the bits; the second run is as the first. */
    void p13_bitsAre0AsARunBegins() {
        loads("rule tree ways 4", 0, 1, 2, 3, 4, 5, 6);
        x.run(0);
        due("mmmmmmm", asked());
        loads("rule tree ways 4", 0, 1, 2, 3, 2, 4, 5, 2);
        due("mmmmhmmh", asked());
        due("mmmmhmmh", asked());
    }

    /** "it comes into the least empty place", wherever bits point. */
    void p13_theLeastEmptyPlace() {
        due("mmmmmmh", asked("rule tree ways 4", 0, 1, 2, 3, 4, 5, 1));
        due("mhmmmmh", asked("rule tree ways 4", 0, 0, 1, 2, 3, 4, 1));
        due("mmhmmmh", asked("rule tree ways 4", 0, 1, 1, 2, 3, 4, 1));
    }

    /** "its SET: LINE's rest by SETS" */
    void p13_sets() {
        due("mmhh", asked("sets 2 ways 1", 0, 1, 0, 1));
        due("mmm", asked("sets 2 ways 1", 0, 2, 0));
        due("mmm", asked("sets 2 ways 1", 15, 1, 15));
        due("mmmmhhhh", asked("sets 4 ways 1", 0, 1, 2, 3, 0, 1, 2, 3));
        due("mmm", asked("sets 4 ways 1", 0, 4, 0));
        due("mmmmm", asked("sets 4 ways 1", 3, 7, 11, 15, 3));
        due("mmm", asked("sets 1 ways 1", 0, 1, 0));
        due("mmmmmmmmmmmmmmmm" + "hhhh", asked("sets 4 ways 4", 0, 1, 2, 3, 4, 5, 6, 7, 8, 9, 10, 11, 12, 13, 14, 15, 0, 5,
                10, 15));
    }

    void p13_eachSetHasAgesTurnsAndBitsOfItsOwn() {
        // Set 0 has 0 and 2, set 1 has 1 and 3; then 4 puts out 0, so that 2 is there still.
        for (String rule : new String[] {"age", "turn", "tree"}) {
            due("mmmmhmh", asked("sets 2 ways 2 rule " + rule, 0, 2, 1, 3, 1, 4, 2));
        }
        due("mmmmmmmmhm" + "mm", asked("sets 2 ways 4 rule tree", 0, 2, 4, 6, 1, 3, 5, 7, 0, 8, 9, 4));
    }

    // ---- 14: Of the latest RUN: what 0 .. 12. BAD; NO.

    void p14_all() {
        machine("guess last wrong 5 stall 4 long 3 miss 7");
        x.memory(0, 0x1ff);
        orders(LOAD, 1, 4, 0, LONG, 2, 0, 1, PARTS, 3, 2, 0, STORE, 3, 4, 1, LOAD, 3, 4, 1, STORE, 3, 4, 1,
                BRANCH, 0, 8, 9, ORDER, 0, 0, 0);
        x.run(6);
        int[] all = {8 + 29 + 9 + 2 + 1 + 6 + 6, 7, 3, 1, 1, 2, 6, 0x1ff, 6 * 0x1ff, 0x1ff, 1, 8, 0};
        for (int i = 0; i < all.length; i++) {
            due(all[i], x.ran(i));
        }
    }

    void p14_bad() {
        for (int what : new int[] {-1, 13, LOW, HIGH}) {
            due(BAD, x.ran(what));
        }
        x.run(0);
        due(BAD, x.ran(-1));
        due(BAD, x.ran(13));
        due(0, x.ran(12));
        refused(BAD, y -> y.ran(13));
        refused(BAD, y -> y.ran(-1));
    }

    void p14_noWithoutARun() {
        for (int what = 0; what <= 12; what++) {
            due(NO, x.ran(what));
        }
        due(BAD, x.ran(13));
        refused(() -> {
            TickBound y = rich();
            y.order(ORDER, 0, 0, 0);
            return y;
        }, NO, y -> y.ran(0));
    }

    /** "(LOCKED ones are HITS)" */
    void p14_lockedOnesAreHits() {
        loads("", 0, 0, 1);
        x.lock(0, 1);
        x.run(0);
        due(2, x.ran(2));
        due(1, x.ran(3));
        x.lock(1, 1);
        x.run(0);
        due(3, x.ran(2));
        due(0, x.ran(3));
    }

    /** "KEPT is a RUN that took each TURN that has a number no more often." */
    void p14_kept() {
        loop();
        int[] kept = {0, 0, 1, 1, 1, 1, 1, 1, 1, 1};
        for (int n = 0; n <= 9; n++) {
            x.turns(1, n);
            x.run(0);
            due(kept[n], x.ran(10));
            x.run(0);
            due(kept[n], x.ran(10));
        }
        x.turns(1, NONE);
        x.run(0);
        due(1, x.ran(10));
    }

    void p14_keptByEachTurn() {
        // Edge 0, from 0 to 0, is never taken; edge 3, from 2 to 0, twice.
        orders(BRANCH, 2, 0, 0, ORDER, 1, 1, 1, BRANCH, 1, 0, 3);
        x.turns(0, 0);
        x.turns(3, 2);
        x.run(0);
        due(1, x.ran(10));
        x.turns(3, 1);
        x.run(0);
        due(0, x.ran(10));
        x.turns(0, 9);
        x.run(0);
        due(0, x.ran(10));
    }

    void p14_keptByATurnToItselfAndByABack() {
        orders(BRANCH, 0, 0, 1);
        x.turns(0, 9);
        due(4, x.run(0));
        due(0, x.ran(10));
        x.run(1);
        due(1, x.ran(10));
        fresh();
        orders(ORDER, 0, 0, -1, BACK, 0, 0, 0);
        x.places(1, 0b111);
        // From 2: to 1, where it stays for good.
        x.turns(1, 0);
        due(4, x.run(2));
        due(1, x.ran(10));
        x.turns(2, 9);
        due(4, x.run(2));
        due(0, x.ran(10));
        // From 3: to the end, by no turn.
        due(0, x.run(3));
        due(1, x.ran(10));
    }

    /** A choice: the turn that the 600th order takes is taken, though nothing comes behind it. */
    void p14_keptByTheTurnOfThe600thOrder() {
        orders(ORDER, 1, 1, 0, ORDER, 0, 0, 1, BRANCH, 0, 1, 300, CALL, 2, 0, 0);
        x.turns(4, 0);
        due(4, x.run(1));
        due(3, x.step(599, 0));
        due(0, x.ran(11));
        due(0, x.ran(10));
        due(4, x.run(0));
        due(2, x.ran(11));
        due(1, x.ran(10));
    }

    /** "(1, 0; by the numbers as they were then)" */
    void p14_keptByTheNumbersAsTheyWereThen() {
        loop();
        x.run(0);
        x.turns(1, 0);
        due(1, x.ran(10));
        x.run(0);
        x.turns(1, 9);
        due(0, x.ran(10));
    }

    /** "11 the order at which it ENDED (THE END: the number of ORDERS; of ENDLESS: that which would come next)" */
    void p14_theOrderAtWhichItEnded() {
        orders(ORDER, 0, 0, 1, BRANCH, 0, 28, 5, CALL, 1, 1, 0);
        due(0, x.run(0));
        due(3, x.ran(11));
        // By 1 and 2 in turns: 1 + 599, the last of them a BRANCH.
        due(4, x.run(9));
        due(1, x.step(599, 0));
        due(2, x.ran(11));
        x.clear();
        orders(ORDER, 0, 0, 1, PARTS, 1, 0, 1);
        x.run(0);
        due(1, x.ran(11));
        x.clear();
        orders(CALL, 1, 27, 0);
        x.run(0);
        due(1, x.ran(11));
    }

    /** "(or it goes: ORDERS, places, THE MACHINE, an IMAGE came)" */
    void p14_itGoes() {
        Call[] calls = {y -> y.order(ORDER, 0, 0, 0), y -> y.clear(), y -> y.places(8, 1), y -> y.machine(), y -> y.back()};
        for (Call call : calls) {
            TickBound y = rich();
            due(0, y.ran(12));
            call.on(y);
            due(NO, y.ran(12));
            due(NO, y.step(0, 0));
            due(NO, y.record());
        }
    }

    void p14_itStaysWithAllElse() {
        Call[] calls = {y -> y.feed(0, 0, 0), y -> y.trim(3), y -> y.is(0), y -> y.memory(0, 5), y -> y.lock(0, 1),
            y -> y.told(0, 6), y -> y.as(0, 0), y -> y.shown(3, 0), y -> y.edges(), y -> y.edge(0, 4), y -> y.turns(3, 0),
            y -> y.blocks(), y -> y.block(0, 0), y -> y.age(0, 0), y -> y.may(0, 0), y -> y.bound(), y -> y.way(0),
            y -> y.factor(0), y -> y.shares(3), y -> y.proves(), y -> y.locks(3, 0), y -> y.shared(2, 2),
            y -> y.work(1, 1), y -> y.answer(0), y -> y.fits(), y -> y.sheet(0, 0, 1), y -> y.mark(0, 0, 1),
            y -> y.pour(0, 0, 5, 1), y -> y.copy(0, 0, 0, 1, 1), y -> y.lay(0, 0, 0), y -> y.ask(0, 0), y -> y.item(1, 0),
            y -> y.tell(1), y -> y.check(), y -> y.record(), y -> y.keep(), y -> y.count(0)};
        for (Call call : calls) {
            TickBound without = rich();
            TickBound with = rich();
            call.on(with);
            for (int what = 0; what <= 12; what++) {
                due(without.ran(what), with.ran(what));
            }
            due(without.step(5, 1), with.step(5, 1));
        }
    }

    void p14_theLatestRun() {
        orders(ORDER, 1, 0, 3);
        x.run(1);
        x.run(2);
        due(5, x.ran(7));
        due(1, x.ran(1));
        due(1, x.ran(0));
    }

    // ---- 15: Of step i (from 0 on) of it: what 0 the order, 1 TICKS up to it, with it.

    void p15_steps() {
        loop();
        x.run(0);
        int[] order = {0, 1, 0, 1, 0, 1};
        int[] ticks = {1, 5, 6, 10, 11, 12};
        for (int i = 0; i < 6; i++) {
            due(order[i], x.step(i, 0));
            due(ticks[i], x.step(i, 1));
        }
    }

    /** "NONE: there are not so many." */
    void p15_noneBehindTheLast() {
        loop();
        x.run(0);
        due(1, x.step(5, 0));
        due(NONE, x.step(6, 0));
        due(NONE, x.step(6, 1));
        due(NONE, x.step(600, 0));
        due(NONE, x.step(HIGH, 1));
        refused(NONE, y -> y.step(600, 0));
    }

    void p15_600Steps() {
        orders(CALL, 1, 0, 0);
        x.run(0);
        due(0, x.step(599, 0));
        due(1200, x.step(599, 1));
        due(NONE, x.step(600, 0));
        // A run that has fewer leaves none of the other's.
        x.clear();
        orders(BRANCH, 0, 0, 1);
        x.run(0);
        due(0, x.step(599, 0));
        x.run(1);
        due(0, x.step(0, 0));
        due(NONE, x.step(1, 0));
    }

    void p15_bad() {
        loop();
        x.run(0);
        for (int i : new int[] {-1, LOW}) {
            due(BAD, x.step(i, 0));
            due(BAD, x.step(i, 1));
        }
        for (int what : new int[] {-1, 2, LOW, HIGH}) {
            due(BAD, x.step(0, what));
            due(BAD, x.step(600, what));
        }
        refused(BAD, y -> y.step(-1, 0));
        refused(BAD, y -> y.step(0, 2));
    }

    void p15_badAheadOfNoAheadOfNone() {
        due(BAD, x.step(-1, 0));
        due(BAD, x.step(0, 2));
        due(BAD, x.step(0, -1));
        due(NO, x.step(0, 0));
        due(NO, x.step(HIGH, 1));
    }

    // ---- 16: SHOWN by n bits (0 .. 7): what 0 TICKS, 1 the input.

    void p16_nIs0To7() {
        // Ticks are greatest for the greatest input of the same number of bits that are 1.
        orders(LONG, 1, 0, 0);
        for (int n = 0; n <= 7; n++) {
            due(1 + 2 * n, x.shown(n, 0));
            due((1 << n) - 1, x.shown(n, 1));
        }
        for (int n : new int[] {-1, 8, 31, 32, 33, LOW, HIGH}) {
            due(BAD, x.shown(n, 0));
            due(BAD, x.shown(n, 1));
        }
    }

    void p16_whatIs0Or1() {
        for (int what : new int[] {-1, 2, LOW, HIGH}) {
            due(BAD, x.shown(0, what));
        }
        due(0, x.shown(0, 0));
        due(0, x.shown(0, 1));
    }

    /** "by the least such input" */
    void p16_theLeastInput() {
        orders(BRANCH, 0, 2, 5, ORDER, 0, 0, 0);
        due(4, x.shown(3, 0));
        due(0, x.shown(3, 1));
        x.clear();
        machine("guess always");
        orders(BRANCH, 0, 2, 5, ORDER, 0, 0, 0);
        due(1, x.shown(2, 0));
        due(0, x.shown(2, 1));
        due(5, x.shown(3, 0));
        due(5, x.shown(3, 1));
    }

    /** "that END with 0" */
    void p16_onlyRunsThatEndWith0() {
        // By 0: zero; 1 .. 31: an end with a load; beyond 31: beyond.
        orders(PARTS, 1, 1, 0, LOAD, 1, 0, 0);
        due(NONE, x.shown(0, 0));
        due(NONE, x.shown(0, 1));
        due(1, x.shown(1, 1));
        due(31, x.shown(5, 1));
        due(31, x.shown(7, 1));
        x.clear();
        orders(BACK, 0, 0, 0);
        x.places(0, 0b1001);
        due(NONE, x.shown(1, 0));
        due(2, x.shown(2, 0));
        due(3, x.shown(2, 1));
        due(3, x.shown(7, 1));
    }

    /** "and are KEPT" */
    void p16_onlyRunsThatAreKept() {
        // To 0 as often as the input is below 3.
        orders(ORDER, 0, 0, 1, BRANCH, 0, 0, 4);
        x.turns(1, 3);
        due(8 + 3 * 3, x.shown(2, 0));
        due(0, x.shown(2, 1));
        x.turns(1, 2);
        due(6 + 2 * 3, x.shown(2, 0));
        due(1, x.shown(2, 1));
        x.turns(1, 0);
        due(3, x.shown(2, 1));
        due(NONE, x.shown(1, 0));
        due(NONE, x.shown(0, 1));
    }

    void p16_withoutOrders() {
        due(0, x.shown(7, 0));
        due(0, x.shown(7, 1));
    }

    /** "(What the latest RUN told stays.)" */
    void p16_whatTheLatestRunToldStays() {
        same(Sentences::rich, y -> y.shown(7, 0), () -> {
            TickBound y = rich();
            y.shown(5, 1);
            return y;
        }, y -> y.shown(7, 0));
        loop();
        x.shown(3, 0);
        due(NO, x.ran(0));
    }

    void p16_refusedChangesNothing() {
        refused(BAD, y -> y.shown(8, 0));
        refused(BAD, y -> y.shown(-1, 0));
        refused(BAD, y -> y.shown(0, 2));
        refused(() -> {
            TickBound y = rich();
            y.turns(3, 0);
            return y;
        }, NONE, y -> y.shown(2, 0));
    }

    public static void main(String[] args) throws Exception {
        runAll(RunSentencesTest.class, 13, 16);
    }
}
