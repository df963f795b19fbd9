/** Promises 34 to 40, and what "Terms" 5 says of sheets, slots and findings, sentence by sentence. */
public final class SheetSentencesTest extends Sentences {
    /** What is at the places of a sheet, read by slot 5. */
    private void sheetIs(int sheet, int... want) {
        x.lay(5, 2, sheet);
        for (int i = 0; i < want.length; i++) {
            due(want[i], x.item(5, i));
        }
        due(INDEX, x.item(5, want.length));
    }

    private void marks(int sheet, int... all) {
        for (int i = 0; i < all.length; i++) {
            x.mark(sheet, i, all[i]);
        }
    }

    // ---- 34: A SHEET becomes a row of n places of a sort, all 0 (sort -1: MISSING, n any): n (0).

    /** "SHEETS 0 .. 3 ... with 0 to 32 places" */
    void p34_leastAndGreatestNumberOfPlaces() {
        for (int sort = 0; sort < 4; sort++) {
            due(0, x.sheet(sort, sort, 0));
            due(INDEX, x.mark(sort, 0, 1));
            due(32, x.sheet(sort, sort, 32));
            due(1, x.mark(sort, 31, 1));
            due(INDEX, x.mark(sort, 32, 1));
            due(BAD, x.sheet(sort, sort, 33));
            due(BAD, x.sheet(sort, sort, HIGH));
            due(SIZE, x.sheet(sort, sort, -1));
            due(SIZE, x.sheet(sort, sort, LOW));
            due(1, x.mark(sort, 31, 1));
        }
    }

    void p34_sheetsAndSorts() {
        for (int sheet : new int[] {-1, 4, LOW, HIGH}) {
            due(BAD, x.sheet(sheet, 0, 1));
            due(BAD, x.sheet(sheet, -1, 1));
        }
        for (int sort : new int[] {-2, 4, LOW, HIGH}) {
            due(BAD, x.sheet(0, sort, 1));
        }
        due(NOTHING, x.mark(0, 0, 0));
    }

    void p34_badStandsAheadOfSize() {
        due(BAD, x.sheet(4, 0, -1));
        due(BAD, x.sheet(0, 4, -1));
        due(BAD, x.sheet(0, -2, -1));
        due(SIZE, x.sheet(0, 0, -1));
    }

    /** "(sort -1: MISSING, n any): ... (0)" */
    void p34_missing() {
        for (int n : new int[] {0, 1, 32, 33, -1, LOW, HIGH}) {
            due(2, x.sheet(1, 2, 2));
            due(0, x.sheet(1, -1, n));
            due(NOTHING, x.mark(1, 0, 0));
        }
        due(0, x.sheet(1, -1, 0));
    }

    void p34_all0() {
        x.sheet(0, 3, 4);
        marks(0, 1, 2, 3, 4);
        due(4, x.sheet(0, 3, 4));
        sheetIs(0, 0, 0, 0, 0);
        marks(0, 1, 2, 3, 4);
        x.sheet(0, 3, 1);
        sheetIs(0, 0);
        x.sheet(0, 3, 4);
        sheetIs(0, 0, 0, 0, 0);
        marks(0, 1, 2, 3, 4);
        x.sheet(0, -1, 0);
        x.sheet(0, 3, 4);
        sheetIs(0, 0, 0, 0, 0);
    }

    void p34_eachIsItsOwn() {
        for (int s = 0; s < 4; s++) {
            x.sheet(s, 2, s + 1);
            x.mark(s, s, 10 + s);
        }
        sheetIs(0, 10);
        sheetIs(1, 0, 11);
        sheetIs(2, 0, 0, 12);
        sheetIs(3, 0, 0, 0, 13);
    }

    void p34_refusedChangesNothing() {
        refused(BAD, y -> y.sheet(4, 0, 1));
        refused(BAD, y -> y.sheet(0, 4, 1));
        refused(BAD, y -> y.sheet(0, 2, 33));
        refused(SIZE, y -> y.sheet(0, 2, -1));
        refused(SIZE, y -> y.sheet(3, 2, -1));
    }

    // ---- 35: A place of a SHEET becomes v (its lowest 8, 16 bits; of longs v): 1. BAD: sheet; NOTHING; INDEX.

    void p35_bytes() {
        x.sheet(0, 0, 8);
        marks(0, 127, 128, -128, -129, 255, 256, HIGH, LOW);
        sheetIs(0, 127, -128, -128, 127, -1, 0, -1, 0);
    }

    void p35_shorts() {
        x.sheet(0, 1, 8);
        marks(0, 32767, 32768, -32768, -32769, 65535, 65536, HIGH, LOW);
        sheetIs(0, 32767, -32768, -32768, 32767, -1, 0, -1, 0);
    }

    void p35_intsAndLongs() {
        for (int sort = 2; sort < 4; sort++) {
            x.sheet(0, sort, 5);
            marks(0, 65536, -1, HIGH, LOW, 0);
            sheetIs(0, 65536, -1, HIGH, LOW, 0);
        }
    }

    void p35_leastAndGreatestPlace() {
        x.sheet(0, 2, 3);
        due(1, x.mark(0, 0, 5));
        due(1, x.mark(0, 2, 7));
        for (int place : new int[] {-1, 3, 31, 32, LOW, HIGH}) {
            due(INDEX, x.mark(0, place, 9));
        }
        sheetIs(0, 5, 0, 7);
    }

    void p35_badAheadOfNothingAheadOfIndex() {
        for (int sheet : new int[] {-1, 4, LOW, HIGH}) {
            due(BAD, x.mark(sheet, -1, 0));
        }
        due(NOTHING, x.mark(0, -1, 0));
        due(NOTHING, x.mark(3, 99, 0));
        x.sheet(0, 0, 0);
        due(INDEX, x.mark(0, 0, 0));
        due(INDEX, x.mark(0, -1, 0));
    }

    void p35_refusedChangesNothing() {
        refused(BAD, y -> y.mark(4, 0, 9));
        refused(BAD, y -> y.mark(-1, 0, 9));
        refused(NOTHING, y -> y.mark(3, 0, 9));
        refused(INDEX, y -> y.mark(0, 4, 9));
        refused(INDEX, y -> y.mark(0, -1, 9));
    }

    // ---- 36: n words of MEMORY from an address on become places of a SHEET from one on: n.

    void p36_allOfMemory() {
        x.sheet(0, 2, 32);
        for (int i = 0; i < 32; i++) {
            x.mark(0, i, 100 + i);
        }
        due(32, x.pour(0, 0, 0, 32));
        for (int i = 0; i < 32; i++) {
            due(100 + i, x.memory(i, -1));
        }
        due(1, x.pour(0, 31, 0, 1));
        due(131, x.memory(0, -1));
        due(-1, x.memory(1, -1));
        due(2, x.pour(0, 5, 30, 2));
        due(-1, x.memory(29, 0));
        due(105, x.memory(30, 0));
        due(106, x.memory(31, 0));
    }

    /** "(as ints; of longs their lowest 32 bits)" */
    void p36_asInts() {
        int[] want = {-56, 200, 200, 200};
        for (int sort = 0; sort < 4; sort++) {
            x.sheet(0, sort, 3);
            marks(0, 200, LOW, -1);
            due(3, x.pour(0, 0, 7, 3));
            due(want[sort], x.memory(7, 0));
            due(sort < 2 ? 0 : LOW, x.memory(8, 0));
            due(-1, x.memory(9, 0));
        }
    }

    /** "BAD: sheet, address, n (0 .. 32), or beyond MEMORY" */
    void p36_bad() {
        x.sheet(0, 2, 32);
        for (int sheet : new int[] {-1, 4, LOW, HIGH}) {
            due(BAD, x.pour(sheet, 0, 0, 1));
        }
        for (int address : new int[] {-1, 32, LOW, HIGH}) {
            due(BAD, x.pour(0, 0, address, 1));
            due(BAD, x.pour(0, 0, address, 0));
        }
        for (int n : new int[] {-1, 33, LOW, HIGH}) {
            due(BAD, x.pour(0, 0, 0, n));
        }
        due(BAD, x.pour(0, 0, 1, 32));
        due(BAD, x.pour(0, 0, 31, 2));
        due(BAD, x.pour(0, 0, HIGH, HIGH));
        due(BAD, x.pour(0, 0, 31, HIGH));
        due(31, x.pour(0, 0, 1, 31));
        due(1, x.pour(0, 0, 31, 1));
        due(0, x.pour(0, 0, 31, 0));
    }

    void p36_index() {
        x.sheet(0, 2, 4);
        due(4, x.pour(0, 0, 0, 4));
        due(1, x.pour(0, 3, 0, 1));
        due(INDEX, x.pour(0, 0, 0, 5));
        due(INDEX, x.pour(0, 1, 0, 4));
        due(INDEX, x.pour(0, 4, 0, 1));
        due(INDEX, x.pour(0, -1, 0, 1));
        due(INDEX, x.pour(0, LOW, 0, 1));
        // A place and a number that wrap around together.
        due(INDEX, x.pour(0, HIGH, 0, 1));
        due(INDEX, x.pour(0, HIGH - 31, 0, 32));
    }

    /** 0 places may stand right behind the last one, no further. */
    void p36_noneOfThem() {
        x.sheet(0, 2, 4);
        due(0, x.pour(0, 0, 0, 0));
        due(0, x.pour(0, 4, 0, 0));
        due(INDEX, x.pour(0, 5, 0, 0));
        due(INDEX, x.pour(0, -1, 0, 0));
        x.sheet(0, 2, 0);
        due(0, x.pour(0, 0, 0, 0));
        due(INDEX, x.pour(0, 0, 0, 1));
    }

    void p36_badAheadOfNothingAheadOfIndex() {
        due(BAD, x.pour(0, -1, 32, 1));
        due(BAD, x.pour(0, -1, 0, 33));
        due(BAD, x.pour(0, -1, 31, 2));
        due(NOTHING, x.pour(0, -1, 0, 1));
        due(NOTHING, x.pour(0, 0, 31, 0));
    }

    void p36_refusedChangesNothing() {
        refused(BAD, y -> y.pour(4, 0, 0, 1));
        refused(BAD, y -> y.pour(0, 0, 32, 1));
        refused(BAD, y -> y.pour(0, 0, 31, 2));
        refused(BAD, y -> y.pour(0, 0, 0, 33));
        refused(NOTHING, y -> y.pour(3, 0, 0, 1));
        refused(INDEX, y -> y.pour(0, 1, 0, 4));
        refused(INDEX, y -> y.pour(0, -1, 0, 1));
    }

    // ---- 37: So many places of a SHEET come to another one (or the same), as they were: many.

    void p37_toAnother() {
        for (int sort = 0; sort < 4; sort++) {
            x.sheet(0, sort, 5);
            x.sheet(1, sort, 3);
            marks(0, 1, -2, 3, -4, 5);
            due(2, x.copy(0, 3, 1, 1, 2));
            sheetIs(1, 0, -4, 5);
            sheetIs(0, 1, -2, 3, -4, 5);
            due(3, x.copy(0, 0, 1, 0, 3));
            sheetIs(1, 1, -2, 3);
        }
    }

    /** "(or the same), as they were" */
    void p37_toTheSame() {
        x.sheet(0, 2, 5);
        marks(0, 1, 2, 3, 4, 5);
        due(4, x.copy(0, 0, 0, 1, 4));
        sheetIs(0, 1, 1, 2, 3, 4);
        due(3, x.copy(0, 2, 0, 0, 3));
        sheetIs(0, 2, 3, 4, 3, 4);
        due(5, x.copy(0, 0, 0, 0, 5));
        sheetIs(0, 2, 3, 4, 3, 4);
    }

    void p37_all32() {
        x.sheet(2, 3, 32);
        x.sheet(3, 3, 32);
        for (int i = 0; i < 32; i++) {
            x.mark(2, i, LOW + i);
        }
        due(32, x.copy(2, 0, 3, 0, 32));
        x.lay(0, 2, 3);
        for (int i = 0; i < 32; i++) {
            due(LOW + i, x.item(0, i));
        }
        due(INDEX, x.copy(2, 0, 3, 0, 33));
        due(INDEX, x.copy(2, 0, 3, 1, 32));
        due(INDEX, x.copy(2, 1, 3, 0, 32));
    }

    void p37_index() {
        x.sheet(0, 2, 5);
        x.sheet(1, 2, 3);
        int[][] no = {{-1, 0, 1}, {0, -1, 1}, {5, 0, 1}, {0, 3, 1}, {3, 0, 3}, {0, 1, 3}, {0, 0, 4}, {0, 0, -1}, {0, 0, LOW},
                {LOW, 0, 1}, {0, LOW, 1}, {HIGH, 0, 1}, {0, HIGH, 1}, {0, 0, HIGH}, {1, 1, HIGH}, {HIGH, HIGH, HIGH},
                {5, 5, -2}, {LOW, LOW, LOW}};
        for (int[] n : no) {
            due(INDEX, x.copy(0, n[0], 1, n[1], n[2]));
        }
        sheetIs(1, 0, 0, 0);
    }

    /** 0 places may stand right behind the last one, no further. */
    void p37_noneOfThem() {
        x.sheet(0, 2, 5);
        x.sheet(1, 2, 0);
        due(0, x.copy(0, 0, 1, 0, 0));
        due(0, x.copy(0, 5, 1, 0, 0));
        due(0, x.copy(1, 0, 0, 5, 0));
        due(INDEX, x.copy(0, 6, 1, 0, 0));
        due(INDEX, x.copy(0, 5, 1, 1, 0));
        due(INDEX, x.copy(0, -1, 1, 0, 0));
        due(INDEX, x.copy(0, 0, 1, 0, 1));
    }

    /** "BAD; NOTHING; KIND: they are not of one sort; INDEX." */
    void p37_badNothingKindIndex() {
        x.sheet(0, 2, 5);
        x.sheet(1, 3, 5);
        for (int sheet : new int[] {-1, 4, LOW, HIGH}) {
            due(BAD, x.copy(sheet, 0, 0, 0, 1));
            due(BAD, x.copy(0, 0, sheet, 0, 1));
            due(BAD, x.copy(sheet, -1, 3, 9, 99));
            due(BAD, x.copy(3, 9, sheet, -1, 99));
        }
        due(NOTHING, x.copy(0, 0, 3, 0, 1));
        due(NOTHING, x.copy(3, 0, 0, 0, 1));
        due(NOTHING, x.copy(0, -1, 3, 99, -1));
        due(NOTHING, x.copy(2, 0, 3, 0, 0));
        due(KIND, x.copy(0, 0, 1, 0, 1));
        due(KIND, x.copy(1, -1, 0, 99, -1));
        due(KIND, x.copy(0, 0, 1, 0, 0));
        due(INDEX, x.copy(0, 0, 0, 0, 6));
    }

    void p37_eachSortIsAnother() {
        for (int s = 0; s < 4; s++) {
            x.sheet(s, s, 1);
        }
        for (int s = 0; s < 4; s++) {
            for (int t = 0; t < 4; t++) {
                due(s == t ? 1 : KIND, x.copy(s, 0, t, 0, 1));
            }
        }
    }

    void p37_refusedChangesNothing() {
        refused(BAD, y -> y.copy(4, 0, 0, 0, 1));
        refused(BAD, y -> y.copy(0, 0, -1, 0, 1));
        refused(NOTHING, y -> y.copy(0, 0, 3, 0, 1));
        refused(NOTHING, y -> y.copy(3, 0, 0, 0, 1));
        refused(KIND, y -> y.copy(0, 0, 1, 0, 1));
        refused(INDEX, y -> y.copy(0, 0, 0, 1, 4));
        refused(INDEX, y -> y.copy(0, 3, 0, 0, 2));
        refused(INDEX, y -> y.copy(0, 0, 0, 1, -1));
    }

    // ---- 38: A SLOT holds: thing 0 nothing, 1 ORDER k, 2 SHEET k, 3 the number k: what it held (0 .. 3).

    void p38_whatItHeld() {
        orders(ORDER, 0, 0, 0);
        x.sheet(0, 2, 1);
        for (int slot = 0; slot < 6; slot++) {
            int held = 0;
            for (int thing : new int[] {1, 2, 3, 0, 3, 2, 1, 1, 0, 0}) {
                due(held, x.lay(slot, thing, 0));
                held = thing;
            }
        }
    }

    /** "BAD: slot, thing, k" */
    void p38_bad() {
        orders(ORDER, 0, 0, 0, ORDER, 0, 0, 0);
        for (int s = 0; s < 4; s++) {
            x.sheet(s, 0, 0);
        }
        for (int slot : new int[] {-1, 6, LOW, HIGH}) {
            for (int thing = 0; thing < 4; thing++) {
                due(BAD, x.lay(slot, thing, 0));
            }
        }
        for (int thing : new int[] {-1, 4, LOW, HIGH}) {
            due(BAD, x.lay(0, thing, 0));
        }
        for (int k : new int[] {-1, 2, 28, LOW, HIGH}) {
            due(BAD, x.lay(0, 1, k));
        }
        for (int k : new int[] {-1, 4, LOW, HIGH}) {
            due(BAD, x.lay(0, 2, k));
        }
        due(0, x.lay(0, 1, 1));
        due(1, x.lay(0, 2, 3));
        due(2, x.lay(0, 0, 0));
        due(0, x.lay(5, 0, 0));
    }

    /** Nothing and a number go with any k. */
    void p38_anyNumber() {
        int held = 0;
        for (int k : new int[] {-1, 4, 99, LOW, HIGH}) {
            due(held, x.lay(0, 3, k));
            due(3, x.lay(0, 0, k));
            due(0, x.lay(0, 3, k));
            held = 3;
        }
    }

    /** "NOTHING: that SHEET is MISSING" */
    void p38_nothing() {
        x.sheet(1, 0, 0);
        due(NOTHING, x.lay(0, 2, 0));
        due(0, x.lay(0, 2, 1));
        x.sheet(1, -1, 0);
        due(NOTHING, x.lay(1, 2, 1));
        due(BAD, x.lay(1, 2, 4));
        due(BAD, x.lay(6, 2, 1));
        due(INDEX, x.item(0, 0));
    }

    /** "an ORDER (its KIND, a, b, c for good)" */
    void p38_anOrderForGood() {
        orders(LONG, 0, 0, 0, LOAD, 0, 4, 6);
        x.lay(0, 1, 0);
        x.lay(1, 1, 1);
        x.clear();
        orders(ORDER, 0, 0, 0, LOAD, 0, 4, 0);
        due(17, x.ask(0, 5));
        due(11, x.ask(1, 1));
        x.lock(0, 1);
        due(11, x.ask(1, 1));
        x.lock(3, 1);
        due(1, x.ask(1, 1));
        x.keep();
        x.clear();
        x.back();
        due(17, x.ask(0, 5));
    }

    /** "a SHEET (a row of its own, as it was then)" */
    void p38_aSheetAsItWasThen() {
        x.sheet(0, 2, 2);
        x.mark(0, 1, 5);
        x.lay(0, 2, 0);
        x.mark(0, 1, 6);
        x.lay(1, 2, 0);
        x.sheet(0, 0, 1);
        due(5, x.item(0, 1));
        due(6, x.item(1, 1));
        x.sheet(0, -1, 0);
        due(5, x.item(0, 1));
        due(INDEX, x.item(0, 2));
    }

    void p38_refusedChangesNothing() {
        refused(BAD, y -> y.lay(6, 0, 0));
        refused(BAD, y -> y.lay(0, 4, 0));
        refused(BAD, y -> y.lay(0, 1, 9));
        refused(BAD, y -> y.lay(0, 2, 4));
        refused(NOTHING, y -> y.lay(0, 2, 3));
        refused(NOTHING, y -> y.lay(1, 2, 3));
    }

    // ---- 39: COST of the ORDER in a SLOT, taken for one of a KIND (0 .. 7), if nothing were told.

    void p39_costOfEachKind() {
        machine("miss 20 wrong 4 long 3 stall 9");
        orders(ORDER, 0, 0, 0, LOAD, 0, 0, 0, STORE, 0, 0, 0, BRANCH, 0, 0, 0, CALL, 0, 0, 0, LONG, 0, 0, 0,
                PARTS, 0, 0, 0, BACK, 0, 0, 0);
        String[] of = {"0", "01", "012", "03", "034", "05", "056", "0347"};
        int[] cost = {1, 21, 22, 5, 2, 25, 27, 2};
        for (int k = 0; k < 8; k++) {
            x.lay(k % 6, 1, k);
            for (int kind = 0; kind < 8; kind++) {
                due(of[k].indexOf('0' + kind) >= 0 ? cost[k] : KIND, x.ask(k % 6, kind));
            }
        }
    }

    /** "(MISS of a LOAD, unless its LINE is told and LOCKED)" */
    void p39_missUnlessToldAndLocked() {
        // The second tells a hit, but in a slot nothing is told of that.
        orders(LOAD, 0, 4, 31, LOAD, 0, 4, 30, STORE, 0, 4, 30, LOAD, 0, 0, 30);
        for (int k = 0; k < 4; k++) {
            x.lay(k, 1, k);
        }
        due(1, x.told(1, 6));
        int[] want = {11, 11, 12, 11};
        for (int k = 0; k < 4; k++) {
            due(want[k], x.ask(k, 1));
        }
        x.lock(14, 1);
        due(11, x.ask(0, 1));
        x.lock(15, 1);
        int[] locked = {1, 1, 2, 11};
        for (int k = 0; k < 4; k++) {
            due(locked[k], x.ask(k, 1));
        }
        x.lock(15, 0);
        due(11, x.ask(0, 1));
        x.clear();
        orders(LOAD, 0, 4, 1);
        x.lay(0, 1, 0);
        due(11, x.ask(0, 1));
        x.lock(0, 1);
        due(1, x.ask(0, 1));
        due(11, x.ask(3, 1));
    }

    /** By the machine as it is now. */
    void p39_byTheMachineNow() {
        orders(LONG, 0, 0, 0);
        x.lay(0, 1, 0);
        machine("long 9");
        due(73, x.ask(0, 0));
        machine("long 0");
        due(1, x.ask(0, 5));
    }

    /** "BAD; NOTHING; KIND: it is no ORDER, or not of that KIND, nor of one under it." */
    void p39_badNothingKind() {
        for (int slot : new int[] {-1, 6, LOW, HIGH}) {
            due(BAD, x.ask(slot, 0));
        }
        for (int kind : new int[] {-1, 8, LOW, HIGH}) {
            due(BAD, x.ask(0, kind));
        }
        due(NOTHING, x.ask(0, 0));
        due(NOTHING, x.ask(5, 7));
        x.sheet(0, 2, 1);
        x.lay(0, 2, 0);
        due(KIND, x.ask(0, 0));
        due(BAD, x.ask(0, 8));
        x.lay(0, 3, 0);
        due(KIND, x.ask(0, 0));
        orders(ORDER, 0, 0, 0);
        x.lay(0, 1, 0);
        due(1, x.ask(0, 0));
        for (int kind = 1; kind < 8; kind++) {
            due(KIND, x.ask(0, kind));
        }
        x.lay(0, 0, 0);
        due(NOTHING, x.ask(0, 0));
    }

    void p39_refusedChangesNothing() {
        refused(BAD, y -> y.ask(6, 0));
        refused(BAD, y -> y.ask(0, 8));
        refused(NOTHING, y -> y.ask(5, 0));
        refused(KIND, y -> y.ask(1, 0));
        refused(KIND, y -> y.ask(2, 0));
        refused(KIND, y -> y.ask(0, 2));
    }

    // ---- 40: A place of the SHEET in a SLOT (of longs its lowest 32 bits). BAD: slot; NOTHING; KIND; INDEX.

    void p40_places() {
        for (int sort = 0; sort < 4; sort++) {
            x.sheet(0, sort, 32);
            x.mark(0, 0, -1);
            x.mark(0, 31, sort == 3 ? LOW : 100);
            x.lay(5, 2, 0);
            due(-1, x.item(5, 0));
            due(0, x.item(5, 15));
            due(sort == 3 ? LOW : 100, x.item(5, 31));
            for (int place : new int[] {-1, 32, 33, LOW, HIGH}) {
                due(INDEX, x.item(5, place));
            }
        }
        x.sheet(0, 0, 0);
        x.lay(5, 2, 0);
        due(INDEX, x.item(5, 0));
    }

    void p40_badNothingKindIndex() {
        for (int slot : new int[] {-1, 6, LOW, HIGH}) {
            due(BAD, x.item(slot, -1));
        }
        due(NOTHING, x.item(0, -1));
        orders(ORDER, 0, 0, 0);
        x.lay(0, 1, 0);
        due(KIND, x.item(0, -1));
        due(KIND, x.item(0, 0));
        x.lay(0, 3, 7);
        due(KIND, x.item(0, 0));
        due(KIND, x.item(0, 99));
        x.sheet(0, 2, 1);
        x.lay(0, 2, 0);
        due(0, x.item(0, 0));
        due(INDEX, x.item(0, 1));
        // A sheet that was there is not what an order or a number in its stead holds.
        x.lay(0, 3, 7);
        due(KIND, x.item(0, 0));
        x.lay(0, 0, 0);
        due(NOTHING, x.item(0, 0));
    }

    void p40_refusedChangesNothing() {
        refused(BAD, y -> y.item(6, 0));
        refused(NOTHING, y -> y.item(5, 0));
        refused(KIND, y -> y.item(0, 0));
        refused(KIND, y -> y.item(2, 0));
        refused(INDEX, y -> y.item(1, 4));
        refused(INDEX, y -> y.item(1, -1));
    }

    public static void main(String[] args) throws Exception {
        runAll(SheetSentencesTest.class, 34, 40);
    }
}
