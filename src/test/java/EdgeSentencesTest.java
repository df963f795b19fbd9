/** Promises 17 to 23, and what "Terms" 3 says of edges, blocks, what must and what may be there, sentence by sentence. */
public final class EdgeSentencesTest extends Sentences {
    private void edgeIs(int edge, int from, int to, int turn) {
        due(from, x.edge(edge, 0));
        due(to, x.edge(edge, 1));
        due(turn, x.edge(edge, 2));
    }

    /** Ages of lines 0, 1, .. at an order. */
    private void agesAre(int order, int... want) {
        for (int line = 0; line < want.length; line++) {
            due(want[line], x.age(order, line));
        }
    }

    private void maysAre(int order, int... want) {
        for (int line = 0; line < want.length; line++) {
            due(want[line], x.may(order, line));
        }
    }

    private void blocksAre(int... firstAndLast) {
        due(firstAndLast.length / 2, x.blocks());
        for (int i = 0; i < firstAndLast.length; i += 2) {
            due(firstAndLast[i], x.block(i / 2, 0));
            due(firstAndLast[i + 1], x.block(i / 2, 1));
        }
        due(BAD, x.block(firstAndLast.length / 2, 0));
    }

    // ---- 17: How many EDGES there are.

    void p17_noneWithoutOrders() {
        due(0, x.edges());
    }

    void p17_oneOnOfOthers() {
        orders(ORDER, 0, 0, 0, LOAD, 0, 0, 0, STORE, 0, 0, 0, LONG, 0, 0, 0, PARTS, 0, 0, 0);
        due(5, x.edges());
        for (int e = 0; e < 5; e++) {
            edgeIs(e, e, e + 1, 0);
        }
    }

    /** "BRANCH: to b, and on (one, if these are one)" */
    void p17_branch() {
        orders(BRANCH, 0, 1, 0);
        due(1, x.edges());
        edgeIs(0, 0, 1, 0);
        // Behind the last ORDER all is one place.
        x.clear();
        orders(BRANCH, 0, 28, 0);
        due(1, x.edges());
        x.clear();
        orders(BRANCH, 0, 2, 0);
        due(1, x.edges());
        x.order(ORDER, 0, 0, 0);
        due(3, x.edges());
        x.clear();
        orders(BRANCH, 0, 0, 0);
        due(2, x.edges());
    }

    void p17_callAndBack() {
        orders(CALL, 0, 0, 0, CALL, 0, 28, 0, BACK, 0, 0, 0);
        due(2, x.edges());
        x.places(2, 1);
        due(3, x.edges());
        x.places(2, 0b111);
        due(5, x.edges());
        x.places(2, ALL_PLACES);
        due(6, x.edges());
        x.places(2, ALL_PLACES & ~0b111);
        due(3, x.edges());
        x.places(2, 0);
        due(2, x.edges());
    }

    void p17_asManyAsCanBe() {
        for (int k = 0; k < 28; k++) {
            x.order(BACK, 0, 0, 0);
        }
        due(0, x.edges());
        for (int k = 0; k < 28; k++) {
            x.places(k, ALL_PLACES);
            due(29 * (k + 1), x.edges());
        }
        due(406, x.count(1));
        edgeIs(811, 27, 28, 0);
        edgeIs(810, 27, 27, 1);
        edgeIs(783, 27, 0, 1);
        due(BAD, x.edge(812, 0));
        due(NONE, x.turns(810, 9));
        due(9, x.edge(810, 3));
        due(29, x.told(27, 5));
    }

    /** All that is asked of edges can be asked of as many as can be. */
    void p17_allOfAsManyAsCanBe() {
        for (int k = 0; k < 28; k++) {
            x.order(BACK, 0, 0, 0);
            x.places(k, ALL_PLACES);
        }
        // Places that were behind the last order have become orders.
        due(812, x.edges());
        due(NONE, x.bound());
        due(NONE, x.proves());
        for (int k = 0; k < 28; k++) {
            for (int to = 0; to <= k; to++) {
                x.turns(29 * k + to, 0);
            }
        }
        due(406, x.count(2));
        due(56, x.bound());
        due(56, x.proves());
        due(56, x.factor(0));
        due(2, x.factor(27));
        due(27, x.way(27));
        due(NONE, x.way(28));
        due(2, x.edge(811, 4));
        due(2, x.told(27, 6));
        due(2, x.shares(810));
        due(28, x.blocks());
        due(NONE, x.age(27, 0));
        due(0, x.may(27, 0));
        due(3, x.run(29));
        due(0, x.run(28));
        due(2, x.shown(5, 0));
        due(28, x.shown(5, 1));
    }

    /** Of more edges that were there before nothing is left. */
    void p17_nothingIsLeftOfEdgesThatWere() {
        for (int number = 0; number < 2; number++) {
            for (int many = 1; many < 28; many += 3) {
                fresh();
                for (int k = 0; k < 28; k++) {
                    x.order(CALL, 0, 1, 0);
                }
                for (int k = 1; k < 28; k++) {
                    x.turns(k, number == 0 ? NONE : 9);
                }
                x.clear();
                plainOrders(many);
                due(many, x.edges());
                due(0, x.count(1));
                due(0, x.count(2));
                due(1, x.blocks());
                due(many, x.bound());
                due(many, x.proves());
                due(many, x.factor(0));
                due(BAD, x.edge(many, 0));
            }
        }
        // Nor of what they led to: nothing leads to order 2.
        fresh();
        orders(BRANCH, 0, 2, 0, CALL, 0, 2, 0, CALL, 0, 0, 0);
        due(NONE, x.bound());
        x.clear();
        orders(CALL, 0, 28, 0, ORDER, 0, 0, 0, CALL, 0, 2, 0);
        due(2, x.bound());
    }

    // ---- 18: Of an EDGE: what 0 from, 1 to, 2 whether it is a TURN, 3 its number, 4 COST. BAD.

    /** "numbered from 0 by ORDERS, of one by where they lead" */
    void p18_byOrdersThenByWhereTheyLead() {
        orders(BRANCH, 0, 3, 0, BRANCH, 0, 0, 0, CALL, 0, 1, 0, BACK, 0, 0, 0);
        x.places(3, 1 << 28 | 1 << 3 | 1 << 1 | 1 << 6);
        due(8, x.edges());
        edgeIs(0, 0, 1, 0);
        edgeIs(1, 0, 3, 0);
        edgeIs(2, 1, 0, 1);
        edgeIs(3, 1, 2, 0);
        edgeIs(4, 2, 1, 1);
        edgeIs(5, 3, 1, 1);
        edgeIs(6, 3, 3, 1);
        edgeIs(7, 3, 4, 0);
    }

    /** "THE END: all that is behind the last ORDER is one place, its number the number of ORDERS" */
    void p18_theEndsNumber() {
        orders(CALL, 0, 2, 0);
        edgeIs(0, 0, 1, 0);
        x.order(ORDER, 0, 0, 0);
        edgeIs(0, 0, 2, 0);
        edgeIs(1, 1, 2, 0);
        // As more orders come, what was behind the last one is an order.
        x.order(ORDER, 0, 0, 0);
        edgeIs(0, 0, 2, 0);
        edgeIs(2, 2, 3, 0);
    }

    /** "An EDGE is a TURN, if it leads to its own ORDER or one ahead of it" */
    void p18_turns() {
        orders(ORDER, 0, 0, 0, BRANCH, 0, 1, 0, BRANCH, 0, 1, 0, BRANCH, 0, 4, 0);
        edgeIs(1, 1, 1, 1);
        edgeIs(2, 1, 2, 0);
        edgeIs(3, 2, 1, 1);
        edgeIs(5, 3, 4, 0);
        due(2, x.count(1));
    }

    void p18_number() {
        loop();
        due(NONE, x.edge(0, 3));
        due(NONE, x.edge(1, 3));
        x.turns(1, 0);
        due(0, x.edge(1, 3));
        x.turns(1, 9);
        due(9, x.edge(1, 3));
        due(NONE, x.edge(0, 3));
        due(NONE, x.edge(2, 3));
        x.turns(1, NONE);
        due(NONE, x.edge(1, 3));
    }

    /** "COST of an EDGE: of its ORDER, and STALL if that is a LOAD (no STORE) whose register a the ORDER ... READS" */
    void p18_costWithStall() {
        int[][] behind = {{ORDER, 0, 1, 2}, {LOAD, 0, 1, 2}, {LOAD, 0, 4, 2}, {STORE, 0, 1, 2}, {STORE, 0, 4, 2},
                {BRANCH, 0, 2, 3}, {CALL, 0, 2, 0}, {BACK, 0, 0, 0}, {LONG, 0, 1, 2}, {PARTS, 0, 1, 2}};
        int[] reads = {0b10, 0b10, 0, 0b11, 0b1, 0b1, 0, 0b1, 0b110, 0b110};
        for (int i = 0; i < behind.length; i++) {
            for (int register = 0; register < 4; register++) {
                fresh();
                machine("stall 5 miss 7");
                orders(LOAD, register, 4, 0);
                due(8, x.edge(0, 4));
                x.order(behind[i][0], behind[i][1], behind[i][2], behind[i][3]);
                due(8 + 5 * (reads[i] >> register & 1), x.edge(0, 4));
                x.clear();
                orders(STORE, register, 4, 0);
                x.order(behind[i][0], behind[i][1], behind[i][2], behind[i][3]);
                due(9, x.edge(0, 4));
            }
        }
    }

    void p18_costOfEachEdgeOfAnOrder() {
        machine("wrong 9");
        orders(BRANCH, 1, 2, 0, LOAD, 1, 4, 0, BRANCH, 1, 0, 0);
        due(10, x.edge(0, 4));
        due(10, x.edge(1, 4));
        due(12, x.edge(2, 4));
        due(10, x.edge(3, 4));
        due(10, x.edge(4, 4));
    }

    void p18_bad() {
        loop();
        for (int edge : new int[] {-1, 3, LOW, HIGH}) {
            due(BAD, x.edge(edge, 0));
        }
        for (int what : new int[] {-1, 5, LOW, HIGH}) {
            due(BAD, x.edge(0, what));
        }
        refused(BAD, y -> y.edge(11, 0));
        refused(BAD, y -> y.edge(-1, 0));
        refused(BAD, y -> y.edge(0, 5));
    }

    // ---- 19: The number of a TURN becomes n (0 .. 9; NONE: none): what it was (NONE). BAD; KIND: no TURN.

    void p19_nIs0To9OrNone() {
        loop();
        due(NONE, x.turns(1, 0));
        due(0, x.turns(1, 9));
        for (int n : new int[] {-1, 10, NONE - 1, NONE + 1, BAD, KIND, LOW, HIGH}) {
            due(BAD, x.turns(1, n));
        }
        due(9, x.turns(1, NONE));
        due(NONE, x.turns(1, NONE));
        due(NONE, x.turns(1, 5));
        due(5, x.edge(1, 3));
    }

    void p19_edgesThatAreThere() {
        loop();
        for (int edge : new int[] {-1, 3, 812, LOW, HIGH}) {
            due(BAD, x.turns(edge, 1));
            due(BAD, x.turns(edge, NONE));
        }
        due(0, x.count(2));
    }

    void p19_kindNoTurn() {
        loop();
        due(KIND, x.turns(0, 1));
        due(KIND, x.turns(2, 0));
        due(KIND, x.turns(0, NONE));
        due(NONE, x.edge(0, 3));
    }

    void p19_badStandsAheadOfKind() {
        loop();
        due(BAD, x.turns(0, 10));
        due(BAD, x.turns(0, -1));
        due(BAD, x.turns(2, NONE + 1));
    }

    void p19_eachTurnHasItsOwn() {
        orders(BRANCH, 0, 0, 0, BRANCH, 0, 0, 0, BRANCH, 0, 2, 0);
        x.turns(0, 1);
        x.turns(2, 2);
        x.turns(4, 3);
        due(1, x.edge(0, 3));
        due(2, x.edge(2, 3));
        due(3, x.edge(4, 3));
        x.turns(2, NONE);
        due(2, x.count(2));
    }

    void p19_boundsAreByTheNumberNow() {
        loop();
        for (int n = 0; n <= 9; n++) {
            x.turns(1, n);
            due(5 * (n + 1), x.bound());
            due(5 * (n + 1), x.proves());
        }
        x.turns(1, NONE);
        due(NONE, x.bound());
    }

    void p19_refusedChangesNothing() {
        refused(BAD, y -> y.turns(3, 10));
        refused(BAD, y -> y.turns(3, -1));
        refused(BAD, y -> y.turns(11, 1));
        refused(KIND, y -> y.turns(0, 1));
        refused(KIND, y -> y.turns(9, NONE));
    }

    // ---- 20, 21: BLOCKS. "rows of ORDERS one behind the other"

    void p20_noneWithoutOrders() {
        due(0, x.blocks());
    }

    void p20_oneOfPlainOrders() {
        plainOrders(28);
        due(1, x.blocks());
        blocksAre(0, 27);
    }

    /** "an ORDER is the first of one, if ... an EDGE leads to it from another ORDER than the one right ahead of it" */
    void p20_whereAnEdgeLeadsFromElsewhere() {
        orders(ORDER, 0, 0, 0, ORDER, 0, 0, 0, ORDER, 0, 0, 0, BRANCH, 0, 1, 0);
        blocksAre(0, 0, 1, 3);
        // From itself is from another one than that right ahead.
        x.clear();
        orders(ORDER, 0, 0, 0, BRANCH, 0, 1, 0);
        blocksAre(0, 0, 1, 1);
        // From a BACK.
        x.clear();
        orders(ORDER, 0, 0, 0, ORDER, 0, 0, 0, BACK, 0, 0, 0);
        blocksAre(0, 2);
        x.places(2, 0b110);
        blocksAre(0, 0, 1, 1, 2, 2);
    }

    /** Edge 0 counts, too, and so do edges from orders to which nothing leads. */
    void p20_byAnyEdge() {
        orders(CALL, 0, 2, 0, ORDER, 0, 0, 0, ORDER, 0, 0, 0);
        blocksAre(0, 0, 1, 1, 2, 2);
        x.clear();
        orders(CALL, 0, 28, 0, ORDER, 0, 0, 0, ORDER, 0, 0, 0, CALL, 0, 2, 0);
        blocksAre(0, 0, 1, 1, 2, 3);
    }

    /** "or that one is a BRANCH (or under it)" */
    void p20_behindABranchOrOneUnderIt() {
        int[][] behind = {{ORDER, 1}, {LOAD, 1}, {STORE, 1}, {BRANCH, 2}, {CALL, 2}, {LONG, 1}, {PARTS, 1}, {BACK, 2}};
        for (int[] b : behind) {
            fresh();
            // A BRANCH or CALL leads to the next one alone.
            x.order(b[0], 0, b[0] == BRANCH || b[0] == CALL ? 1 : 0, 0);
            x.order(ORDER, 0, 0, 0);
            due(b[1], x.blocks());
        }
    }

    void p20_asManyAsOrders() {
        for (int k = 0; k < 28; k++) {
            x.order(BRANCH, 0, 28, 0);
        }
        due(28, x.blocks());
        due(27, x.block(27, 0));
        due(27, x.block(27, 1));
        due(BAD, x.block(28, 0));
    }

    void p21_firstAndLast() {
        orders(ORDER, 0, 0, 0, BRANCH, 0, 4, 0, ORDER, 0, 0, 0, ORDER, 0, 0, 0, ORDER, 0, 0, 0, CALL, 0, 0, 0,
                ORDER, 0, 0, 0);
        blocksAre(0, 1, 2, 3, 4, 5, 6, 6);
    }

    void p21_bad() {
        due(BAD, x.block(0, 0));
        loop();
        blocksAre(0, 1);
        for (int block : new int[] {-1, 1, 28, LOW, HIGH}) {
            due(BAD, x.block(block, 0));
            due(BAD, x.block(block, 1));
        }
        for (int what : new int[] {-1, 2, LOW, HIGH}) {
            due(BAD, x.block(0, what));
        }
        refused(BAD, y -> y.block(-1, 0));
        refused(BAD, y -> y.block(HIGH, 1));
        refused(BAD, y -> y.block(0, 2));
    }

    // ---- 22: AGE of a LINE in MUST at an ORDER. BAD; NONE: it is not there.

    void p22_bad() {
        due(BAD, x.age(0, 0));
        plainOrders(2);
        for (int order : new int[] {-1, 2, 28, LOW, HIGH}) {
            due(BAD, x.age(order, 0));
        }
        for (int line : new int[] {-1, 16, 32, LOW, HIGH}) {
            due(BAD, x.age(0, line));
        }
        due(NONE, x.age(1, 15));
        refused(BAD, y -> y.age(9, 0));
        refused(BAD, y -> y.age(0, 16));
        refused(NONE, y -> y.age(0, 0));
    }

    /** "at ORDER 0 none (by the start)", even where an edge leads to it. */
    void p22_noneAtOrder0() {
        orders(LOAD, 0, 4, 0, CALL, 1, 0, 0);
        for (int line = 0; line < 16; line++) {
            due(NONE, x.age(0, line));
        }
        due(0, x.age(1, 0));
    }

    /** "that one has AGE 0; those of its SET that were younger than it was (all, if it was not there) are 1 older" */
    void p22_byAge() {
        loads("ways 4", 0, 1, 2, 3, 2, 0, 4, 15);
        agesAre(1, 0, NONE, NONE, NONE, NONE);
        agesAre(2, 1, 0, NONE, NONE, NONE);
        agesAre(3, 2, 1, 0, NONE, NONE);
        agesAre(4, 3, 2, 1, 0, NONE);
        // 3 alone was younger than 2.
        agesAre(5, 3, 2, 0, 1, NONE);
        agesAre(6, 0, 3, 1, 2, NONE);
        // 4 was not there: all are older, and 1 is gone.
        agesAre(7, 1, NONE, 2, 3, 0);
        due(NONE, x.age(7, 15));
    }

    /** "each with an AGE 0 .. REMEMBERS - 1"; "gone at REMEMBERS" */
    void p22_goneAtRemembers() {
        String[] texts = {"ways 1", "ways 2", "ways 4", "ways 1 rule turn", "ways 2 rule turn", "ways 4 rule turn",
            "ways 1 rule tree", "ways 2 rule tree", "ways 4 rule tree"};
        for (String text : texts) {
            loads(text, 0, 1, 2, 3, 4, 5);
            int remembers = x.is(8);
            for (int k = 1; k < 6; k++) {
                due(k - 1 < remembers ? k - 1 : NONE, x.age(k, 0));
            }
        }
    }

    void p22_onlyThoseOfItsSet() {
        loads("sets 2 ways 2", 0, 1, 3, 5, 2, 4, 0);
        agesAre(4, 0, NONE, NONE, 1, NONE, 0);
        agesAre(5, 1, NONE, 0, 1, NONE, 0);
        agesAre(6, NONE, NONE, 1, 1, 0, 0);
        loads("sets 4 ways 1", 0, 1, 2, 3, 7, 0);
        agesAre(5, 0, 0, 0, NONE, NONE, NONE, NONE, 0);
    }

    /** "behind one that asks a LINE not told (b 0 .. 3): all are 1 older", in all sets. */
    void p22_behindALineNotTold() {
        machine("sets 2 ways 2");
        orders(LOAD, 0, 4, 0, LOAD, 0, 4, 2, LOAD, 0, 4, 6, LOAD, 0, 3, 0, STORE, 0, 0, 0, ORDER, 0, 0, 0);
        agesAre(3, 0, 1, NONE, 0);
        agesAre(4, 1, NONE, NONE, 1);
        agesAre(5, NONE, NONE, NONE, NONE);
    }

    void p22_aStoreAsksAsALoadDoes() {
        orders(STORE, 0, 4, 30, STORE, 0, 4, 0, ORDER, 0, 0, 0);
        due(0, x.age(1, 15));
        due(1, x.age(2, 15));
        due(0, x.age(2, 0));
    }

    void p22_othersLeaveItAsItIs() {
        orders(LOAD, 1, 4, 0, ORDER, 0, 0, 0, LONG, 0, 0, 0, PARTS, 0, 0, 0, BRANCH, 0, 5, 0, CALL, 0, 6, 0, BACK, 0, 0, 0,
                ORDER, 0, 0, 0);
        x.places(6, 1 << 7);
        for (int k = 1; k < 8; k++) {
            due(0, x.age(k, 0));
            due(NONE, x.age(k, 1));
        }
    }

    /** "(b 4; not LOCKED)" */
    void p22_lockedOnesAgeNothing() {
        loads("ways 1", 0, 1, 0);
        due(NONE, x.age(2, 0));
        due(0, x.age(2, 1));
        x.lock(1, 1);
        due(0, x.age(2, 0));
        due(NONE, x.age(2, 1));
        due(0, x.told(2, 7));
    }

    /** "Where EDGES meet ...: those that are there by all, with the greatest AGE of these." */
    void p22_whereEdgesMeet() {
        machine("ways 4");
        // By 2, 3: lines 0 (2), 1 (1), 2 (0); by 4 alone: lines 0 (1), 2 (0).
        orders(LOAD, 0, 4, 0, BRANCH, 0, 5, 0, LOAD, 0, 4, 2, LOAD, 0, 4, 4, CALL, 1, 6, 0, LOAD, 0, 4, 4, ORDER, 0, 0, 0);
        agesAre(4, 2, 1, 0);
        agesAre(6, 2, NONE, 0);
    }

    /** "the start counts as one to ORDER 0": even of an order that is its own next. */
    void p22_theStartCounts() {
        orders(BRANCH, 0, 0, 1, LOAD, 0, 4, 0, CALL, 1, 0, 0);
        agesAre(0, NONE);
        agesAre(1, NONE);
        agesAre(2, 0);
    }

    /** "It is the greatest such": a line that comes ahead of a round is there in all of it. */
    void p22_theGreatest() {
        orders(LOAD, 0, 4, 0, LOAD, 0, 4, 2, LOAD, 0, 4, 0, BRANCH, 1, 2, 3);
        // By the round line 0 has age 0 and line 1 age 1, by the start the other way round.
        agesAre(2, 1, 1);
        agesAre(3, 0, 1);
        due(0, x.told(2, 7));
        // A line that is asked in the round alone makes all older each time, until they are gone.
        x.clear();
        machine("ways 4");
        orders(LOAD, 0, 4, 0, LOAD, 0, 4, 2, BRANCH, 1, 1, 3);
        agesAre(1, NONE, NONE);
        agesAre(2, NONE, 0);
    }

    /** "made less as long as there is something to make less": four rounds of 26 orders, and one more to tell all of them. */
    void p22_asLongAsThereIsSomethingToMakeLess() {
        machine("ways 4");
        orders(LOAD, 1, 4, 0, CALL, 1, 27, 0, LOAD, 1, 1, 0, CALL, 1, 27, 0, CALL, 1, 2, 0);
        for (int k = 5; k < 28; k++) {
            x.order(CALL, 1, k - 1, 0);
        }
        due(0, x.age(1, 0));
        for (int k = 2; k < 28; k++) {
            due(NONE, x.age(k, 0));
        }
        due(2, x.told(2, 7));
    }

    /** "ORDERS to which nothing leads keep that" (all LINES of AGE 0), locked or not. */
    void p22_ordersToWhichNothingLeads() {
        x.lock(3, 1);
        orders(CALL, 0, 28, 0, LOAD, 0, 4, 0, LOAD, 0, 0, 0, ORDER, 0, 0, 0, LOAD, 0, 0, 0, ORDER, 0, 0, 0);
        for (int line = 0; line < 16; line++) {
            due(0, x.age(1, line));
            // None was younger than line 0.
            due(0, x.age(2, line));
            due(1, x.age(3, line));
            due(1, x.age(4, line));
            due(NONE, x.age(5, line));
        }
        due(0, x.told(1, 7));
    }

    /** Where one edge comes from the start and one from an order to which nothing leads, that one counts, too. */
    void p22_edgesFromOrdersToWhichNothingLeadsMeetToo() {
        orders(LOAD, 0, 4, 0, CALL, 0, 3, 0, LOAD, 0, 0, 0, ORDER, 0, 0, 0);
        agesAre(2, 0, 0);
        agesAre(3, 1, NONE);
    }

    // ---- 23: Whether a LINE is in MAY at an ORDER: 1, 0. BAD.

    void p23_bad() {
        due(BAD, x.may(0, 0));
        plainOrders(2);
        for (int order : new int[] {-1, 2, 28, LOW, HIGH}) {
            due(BAD, x.may(order, 0));
        }
        for (int line : new int[] {-1, 16, 32, LOW, HIGH}) {
            due(BAD, x.may(0, line));
        }
        due(0, x.may(1, 15));
        refused(BAD, y -> y.may(9, 0));
        refused(BAD, y -> y.may(0, 16));
    }

    /** "none at the start; behind an ORDER that asks: that LINE, too" */
    void p23_behindAnOrderThatAsks() {
        loads("ways 1", 0, 15, 2);
        x.order(STORE, 0, 4, 7);
        x.order(ORDER, 0, 0, 0);
        maysAre(0, 0, 0, 0, 0);
        maysAre(1, 1, 0, 0, 0);
        maysAre(2, 1, 0, 0, 0);
        due(1, x.may(2, 15));
        due(0, x.may(1, 15));
        // None goes, though there is one place alone.
        maysAre(3, 1, 0, 1, 0);
        maysAre(4, 1, 0, 1, 1);
    }

    void p23_lockedOnesDoNotCome() {
        loads("", 0, 1, 0);
        x.lock(0, 1);
        maysAre(2, 0, 1);
        x.lock(0, 0);
        maysAre(2, 1, 1);
    }

    /** "(all, if it is not told)" */
    void p23_allBehindALineNotTold() {
        orders(ORDER, 0, 0, 0, STORE, 0, 3, 0, ORDER, 0, 0, 0);
        for (int line = 0; line < 16; line++) {
            due(0, x.may(1, line));
            due(1, x.may(2, line));
        }
        // A choice: all are all, locked ones too.
        x.lock(6, 1);
        due(1, x.may(2, 6));
        due(0, x.may(1, 6));
    }

    /** "where EDGES meet all of all; the least such" */
    void p23_allOfAll() {
        orders(BRANCH, 0, 3, 0, LOAD, 0, 4, 0, CALL, 1, 4, 0, LOAD, 0, 4, 2, ORDER, 0, 0, 0);
        maysAre(4, 1, 1, 0);
        maysAre(3, 0, 0, 0);
    }

    void p23_byARoundToo() {
        orders(ORDER, 0, 0, 0, LOAD, 0, 4, 0, BRANCH, 0, 0, 0);
        maysAre(0, 1, 0);
        maysAre(1, 1, 0);
        due(2, x.told(1, 7));
    }

    void p23_noneWhereNothingLeads() {
        orders(CALL, 0, 28, 0, ORDER, 0, 0, 0, LOAD, 0, 4, 0, ORDER, 0, 0, 0);
        maysAre(1, 0, 0);
        maysAre(2, 0, 0);
        maysAre(3, 1, 0);
    }

    public static void main(String[] args) throws Exception {
        runAll(EdgeSentencesTest.class, 17, 23);
    }
}
