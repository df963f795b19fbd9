/** Promises 24 to 33, and what "Terms" 4 says of bounds, factors, locks and works, sentence by sentence. */
public final class BoundSentencesTest extends Sentences {
    /** Four rounds to order 0 of 4 times each, 625 in all, the fewest above 600; edges 0, 2, 4, 6 are the turns. */
    private static void fourRounds(TickBound y) {
        for (int i = 0; i < 4; i++) {
            y.order(BRANCH, 0, 0, 0);
        }
    }

    private static void numberRounds(TickBound y, int last) {
        for (int i = 0; i < 3; i++) {
            y.turns(2 * i, 4);
        }
        y.turns(6, last);
    }

    private static TickBound spent() {
        TickBound y = rich();
        y.clear();
        fourRounds(y);
        numberRounds(y, 4);
        y.run(0);
        return y;
    }

    private static TickBound unbound() {
        TickBound y = rich();
        y.turns(3, NONE);
        return y;
    }

    private void wayIs(int... want) {
        for (int i = 0; i < want.length; i++) {
            due(want[i], x.way(i));
        }
        due(NONE, x.way(want.length));
    }

    // ---- 24: BOUND. NONE; SPENT.

    /** "(0 without ORDERS)" */
    void p24_0WithoutOrders() {
        due(0, x.bound());
        loop();
        x.clear();
        due(0, x.bound());
    }

    /** "the greatest sum of COSTS of EDGES of all ways from ORDER 0 to THE END" */
    void p24_theCostliestWay() {
        orders(LOAD, 1, 4, 0, BRANCH, 1, 4, 0, LOAD, 2, 4, 1, LONG, 3, 2, 2, STORE, 1, 4, 2);
        due(12 + 4 + 2 + 17 + 12, x.bound());
        fresh();
        orders(BRANCH, 0, 3, 0, ORDER, 0, 0, 0, CALL, 1, 4, 0, LONG, 0, 0, 0);
        due(4 + 17, x.bound());
        x.clear();
        orders(BRANCH, 0, 28, 0, ORDER, 0, 0, 0, CALL, 1, 28, 0, LONG, 0, 0, 0);
        due(4 + 1 + 2, x.bound());
    }

    /** "in which no TURN is taken more often than its number" */
    void p24_turnsByTheirNumbers() {
        loop();
        x.turns(1, 0);
        due(5, x.bound());
        x.turns(1, 1);
        due(10, x.bound());
        x.turns(1, 9);
        due(50, x.bound());
        fresh();
        orders(BRANCH, 0, 0, 0, BRANCH, 0, 0, 0, BRANCH, 0, 0, 0);
        x.turns(0, 9);
        x.turns(2, 9);
        x.turns(4, 5);
        due(4 * (9 + 9 * 2 + 5 * 3 + 3), x.bound());
    }

    /** "NONE: an EDGE that can be come to from ORDER 0 ... is a TURN without number" */
    void p24_noneOfATurnWithoutNumber() {
        loop();
        due(NONE, x.bound());
        fresh();
        orders(BRANCH, 0, 0, 0);
        due(NONE, x.bound());
        x.turns(0, 0);
        due(4, x.bound());
        // One to which nothing leads needs none.
        fresh();
        orders(CALL, 0, 3, 0, CALL, 0, 1, 0, BRANCH, 0, 1, 0, ORDER, 0, 0, 0);
        due(3, x.bound());
    }

    /** "(TURNS counting)": what a turn of number 0 leads to can be come to. */
    void p24_whatATurnLeadsToCanBeComeTo() {
        orders(CALL, 0, 3, 0, CALL, 0, 1, 0, BACK, 0, 0, 0, BRANCH, 0, 1, 0);
        x.turns(2, 0);
        due(NONE, x.bound());
        x.turns(1, 0);
        due(2 + 4, x.bound());
        // A BACK there, too.
        x.clear();
        orders(CALL, 0, 2, 0, BACK, 0, 0, 0, BRANCH, 0, 1, 0);
        x.turns(1, 0);
        due(NONE, x.bound());
        x.places(1, 1 << 2);
        x.turns(2, 0);
        due(2 + 4, x.bound());
    }

    /** "or a BACK there has no told place" */
    void p24_noneOfABackWithoutPlace() {
        orders(BRANCH, 0, 2, 0, ORDER, 0, 0, 0, BACK, 0, 0, 0);
        due(NONE, x.bound());
        x.places(2, 1 << 3);
        due(4 + 1 + 2, x.bound());
        x.places(2, 0);
        due(NONE, x.bound());
        // One to which nothing leads needs none.
        x.clear();
        orders(CALL, 0, 2, 0, BACK, 0, 0, 0, ORDER, 0, 0, 0);
        due(3, x.bound());
    }

    /** "or no such way is there" */
    void p24_noneOfNoWay() {
        orders(CALL, 0, 0, 0);
        due(NONE, x.bound());
        x.turns(0, 9);
        due(NONE, x.bound());
        x.clear();
        orders(ORDER, 0, 0, 0, BACK, 0, 0, 0);
        x.places(1, 0b11);
        x.turns(1, 3);
        x.turns(2, 3);
        due(NONE, x.bound());
        // A way that would need a turn of number 0.
        x.clear();
        orders(CALL, 0, 2, 0, CALL, 0, 3, 0, CALL, 0, 1, 0);
        x.turns(2, 0);
        due(NONE, x.bound());
        x.turns(2, 1);
        due(6, x.bound());
    }

    /** "SPENT: the product of the numbers of all TURNS that have one, each and 1, is above 600." */
    void p24_spentAbove600() {
        orders(BRANCH, 0, 0, 0, BRANCH, 0, 0, 0, BRANCH, 0, 0, 0);
        x.turns(0, 9);
        x.turns(2, 9);
        x.turns(4, 5);
        due(180, x.bound());
        x.turns(4, 6);
        due(SPENT, x.bound());
        x.turns(4, 5);
        due(180, x.bound());
        fresh();
        fourRounds(x);
        numberRounds(x, 3);
        due(4 * (4 + 4 * 2 + 4 * 3 + 3 * 4 + 4), x.bound());
        x.turns(6, 4);
        due(SPENT, x.bound());
    }

    /** Just 600, and turns of number 0 or without one behind that. */
    void p24_just600AndMoreTurnsBehind() {
        fourRounds(x);
        x.order(CALL, 0, 28, 0);
        x.order(BRANCH, 0, 5, 0);
        numberRounds(x, 9);
        due(SPENT, x.bound());
        x.turns(0, 9);
        x.turns(2, 9);
        x.turns(4, 5);
        x.turns(6, 0);
        due(4 * (9 + 9 * 2 + 5 * 3 + 4) + 2, x.bound());
        due(NONE, x.edge(9, 3));
        fresh();
        fourRounds(x);
        x.turns(0, 9);
        x.turns(2, 9);
        x.turns(4, 5);
        x.turns(6, 0);
        due(4 * (9 + 9 * 2 + 5 * 3 + 4), x.bound());
        machine("wrong 0");
        due(9 + 9 * 2 + 5 * 3 + 4, x.bound());
    }

    /** "of all TURNS that have one": those to which nothing leads, too; those without one don't count. */
    void p24_spentByTurnsToWhichNothingLeads() {
        x.order(CALL, 0, 28, 0);
        for (int i = 0; i < 4; i++) {
            x.order(BRANCH, 0, 1, 0);
        }
        for (int i = 0; i < 4; i++) {
            due(2, x.bound());
            x.turns(1 + 2 * i, 4);
        }
        due(SPENT, x.bound());
        x.turns(3, NONE);
        due(2, x.bound());
    }

    void p24_turnsOfNumber0CountAs1() {
        x.order(CALL, 0, 28, 0);
        for (int i = 1; i < 28; i++) {
            x.order(BRANCH, 0, 1, 0);
        }
        for (int e = 1; e < x.edges(); e += 2) {
            x.turns(e, 0);
        }
        due(27, x.count(2));
        due(2, x.bound());
    }

    /** Products that would wrap around: 2 to the power of 31, 32, 63, 64, and 10 to the power of 28. */
    void p24_productsThatWrapAround() {
        x.order(CALL, 0, 28, 0);
        for (int k = 1; k < 28; k++) {
            x.order(BACK, 0, 0, 0);
        }
        for (int k = 25; k < 28; k++) {
            x.places(k, ALL_PLACES);
        }
        int numbered = 0;
        for (int e = 0; e < x.edges() && numbered < 70; e++) {
            if (x.turns(e, 1) == NONE) {
                numbered++;
                due(numbered <= 9 ? 2 : SPENT, x.bound());
            }
        }
        due(70, x.count(2));
        fresh();
        x.order(CALL, 0, 28, 0);
        for (int k = 1; k < 27; k++) {
            x.order(ORDER, 0, 0, 0);
        }
        x.order(BACK, 0, 0, 0);
        x.places(27, ALL_PLACES);
        for (int i = 0; i < 28; i++) {
            due(NONE, x.turns(27 + i, 9));
            due(i < 2 ? 2 : SPENT, x.bound());
        }
    }

    /** "SPENT (asked behind NONE of a TURN, a BACK ...)" */
    void p24_noneOfATurnOrABackGoesAheadOfSpent() {
        fourRounds(x);
        x.order(BRANCH, 0, 4, 0);
        numberRounds(x, 4);
        due(NONE, x.bound());
        x.turns(8, 0);
        due(SPENT, x.bound());
        fresh();
        fourRounds(x);
        x.order(BACK, 0, 0, 0);
        numberRounds(x, 4);
        due(NONE, x.bound());
        x.places(4, 1 << 5);
        numberRounds(x, 4);
        due(SPENT, x.bound());
        // A BACK that is order 0, and turns to which nothing leads.
        fresh();
        x.order(BACK, 0, 0, 0);
        fourRounds(x);
        numberRounds(x, 4);
        due(4, x.count(2));
        due(NONE, x.bound());
        x.places(0, 1 << 5);
        due(2, x.bound());
        for (int i = 0; i < 4; i++) {
            x.turns(1 + 2 * i, 4);
        }
        due(SPENT, x.bound());
    }

    /** "(... ahead of NONE of no way)" */
    void p24_spentGoesAheadOfNoneOfNoWay() {
        fourRounds(x);
        x.order(CALL, 0, 4, 0);
        x.turns(8, 0);
        numberRounds(x, 3);
        due(NONE, x.bound());
        x.turns(6, 4);
        due(SPENT, x.bound());
    }

    void p24_theGreatestBound() {
        machine("miss 99 wrong 9 stall 9 long 9 ways 1");
        for (int k = 0; k < 25; k++) {
            x.order(PARTS, 0, 0, 0);
        }
        orders(BRANCH, 0, 0, 0, BRANCH, 0, 0, 0, BRANCH, 0, 0, 0);
        x.turns(25, 9);
        x.turns(27, 9);
        x.turns(29, 5);
        due(75 * 25 * 24 + 10 * (24 + 15 + 6), x.bound());
    }

    void p24_noneAndSpentChangeNothing() {
        refused(BoundSentencesTest::unbound, NONE, y -> y.bound());
        refused(BoundSentencesTest::spent, SPENT, y -> y.bound());
    }

    // ---- 25: The i-th ORDER of THE WAY (from 0 on; THE END not). BAD: i below 0; NONE; SPENT.

    void p25_theWay() {
        loop();
        x.turns(1, 2);
        wayIs(0, 1, 0, 1, 0, 1);
        due(NONE, x.way(7));
        due(NONE, x.way(HIGH));
        due(BAD, x.way(-1));
        due(BAD, x.way(LOW));
    }

    void p25_noneWithoutOrders() {
        due(NONE, x.way(0));
        due(NONE, x.way(HIGH));
        due(BAD, x.way(-1));
        loop();
        x.turns(1, 0);
        due(0, x.way(0));
        x.clear();
        due(NONE, x.way(0));
    }

    void p25_noneWithoutABound() {
        loop();
        due(NONE, x.way(0));
        due(BAD, x.way(-1));
        x.clear();
        orders(CALL, 0, 0, 0);
        x.turns(0, 3);
        due(NONE, x.way(0));
    }

    void p25_spent() {
        fourRounds(x);
        numberRounds(x, 4);
        due(SPENT, x.way(0));
        due(SPENT, x.way(HIGH));
        due(BAD, x.way(-1));
        x.turns(6, 3);
        due(0, x.way(0));
    }

    /** "that of those with this sum in which, where they first differ, the lesser ORDER comes next" */
    void p25_theLesserOrderWhereTheyFirstDiffer() {
        orders(BRANCH, 0, 3, 0, ORDER, 0, 0, 0, CALL, 0, 5, 0, ORDER, 0, 0, 0, CALL, 0, 5, 0);
        wayIs(0, 1, 2);
        // A costlier one goes ahead of a lesser order.
        machine("long 0");
        x.clear();
        orders(BRANCH, 0, 3, 0, ORDER, 0, 0, 0, CALL, 0, 28, 0, ORDER, 0, 0, 0, ORDER, 0, 0, 0, ORDER, 0, 0, 0,
                ORDER, 0, 0, 0);
        wayIs(0, 3, 4, 5, 6);
        // Back to a lesser order first, where the sum is the same.
        x.clear();
        orders(ORDER, 0, 0, 0, BRANCH, 0, 0, 0, BRANCH, 0, 0, 0);
        x.turns(1, 1);
        x.turns(3, 1);
        wayIs(0, 1, 0, 1, 2, 0, 1, 2);
    }

    /** THE END is no lesser order than any. */
    void p25_theEndComesLast() {
        orders(BRANCH, 0, 28, 0, ORDER, 0, 0, 0);
        wayIs(0, 1);
        fresh();
        machine("wrong 0");
        orders(ORDER, 0, 0, 0, BRANCH, 0, 28, 0, BRANCH, 0, 0, 0);
        x.turns(3, 1);
        wayIs(0, 1, 2, 0, 1, 2);
    }

    void p25_aLongWay() {
        for (int k = 0; k < 25; k++) {
            x.order(ORDER, 0, 0, 0);
        }
        orders(BRANCH, 0, 0, 0, BRANCH, 0, 0, 0, BRANCH, 0, 0, 0);
        x.turns(25, 9);
        x.turns(27, 9);
        x.turns(29, 5);
        due(25 * 24 + 4 * (24 + 15 + 6), x.bound());
        int many = 9 * 26 + 9 * 27 + 5 * 28 + 28;
        due(25, x.way(25));
        due(0, x.way(26));
        due(27, x.way(many - 1));
        due(NONE, x.way(many));
    }

    void p25_refusedChangesNothing() {
        refused(BAD, y -> y.way(-1));
        refused(NONE, y -> y.way(600));
        refused(BoundSentencesTest::unbound, NONE, y -> y.way(0));
        refused(BoundSentencesTest::spent, SPENT, y -> y.way(0));
    }

    // ---- 26: OWN FACTORS: p of an ORDER. BAD.

    /** "p: the greatest sum of COSTS of EDGES, none a TURN, one behind the other from there on" */
    void p26_theGreatestSum() {
        orders(BRANCH, 0, 2, 0, LONG, 1, 1, 1, LOAD, 1, 4, 0, ORDER, 1, 1, 0);
        int[] want = {4 + 17 + 12 + 1, 17 + 12 + 1, 12 + 1, 1};
        for (int k = 0; k < 4; k++) {
            due(want[k], x.factor(k));
        }
        x.clear();
        orders(BRANCH, 0, 2, 0, CALL, 1, 28, 0, LONG, 1, 1, 1);
        due(4 + 17, x.factor(0));
        due(2, x.factor(1));
    }

    /** "(to wherever; 0 without one)" */
    void p26_toWhereverAnd0WithoutOne() {
        orders(ORDER, 0, 0, 0, CALL, 0, 0, 0);
        due(1, x.factor(0));
        due(0, x.factor(1));
        x.clear();
        orders(ORDER, 0, 0, 0, BACK, 0, 0, 0);
        due(1, x.factor(0));
        due(0, x.factor(1));
        x.places(1, 0b11);
        due(0, x.factor(1));
        x.places(1, 0b111);
        due(2, x.factor(1));
        due(3, x.factor(0));
    }

    /** Numbers of turns are nothing to it, nor whether there is a bound. */
    void p26_withoutABound() {
        loop();
        due(5, x.factor(0));
        due(4, x.factor(1));
        x.turns(1, 9);
        due(5, x.factor(0));
    }

    void p26_bad() {
        due(BAD, x.factor(0));
        loop();
        for (int order : new int[] {-1, 2, 28, LOW, HIGH}) {
            due(BAD, x.factor(order));
        }
        refused(BAD, y -> y.factor(9));
        refused(BAD, y -> y.factor(-1));
    }

    // ---- 27: OWN FACTORS: y of a TURN. BAD; KIND: no TURN.

    /** "y: the least of 0 and more that is needed" */
    void p27_theLeastThatIsNeeded() {
        loop();
        due(5, x.shares(1));
        // From 2 to 1: 4 and 2 of order 1, less what order 2 has by its other edge.
        int[] other = {ORDER, CALL, LONG};
        int[] want = {1, 0, 0};
        for (int i = 0; i < 3; i++) {
            x.clear();
            orders(CALL, 0, 2, 0, CALL, 0, 28, 0, BRANCH, 0, 1, 0);
            x.order(other[i], 0, other[i] == CALL ? 28 : 0, 0);
            due(want[i], x.shares(2));
        }
        x.clear();
        orders(CALL, 0, 0, 0);
        due(2, x.shares(0));
    }

    void p27_badAndKind() {
        due(BAD, x.shares(0));
        loop();
        for (int edge : new int[] {-1, 3, LOW, HIGH}) {
            due(BAD, x.shares(edge));
        }
        due(KIND, x.shares(0));
        due(KIND, x.shares(2));
        refused(BAD, y -> y.shares(11));
        refused(BAD, y -> y.shares(-1));
        refused(KIND, y -> y.shares(0));
    }

    // ---- 28: What OWN FACTORS PROVE. NONE: a TURN has no number.

    /** "they PROVE p of ORDER 0 and the sum of y times the number of each TURN" */
    void p28_whatTheyProve() {
        orders(BRANCH, 0, 0, 0, BRANCH, 0, 0, 0);
        due(4, x.shares(0));
        due(8, x.shares(2));
        int[][] numbers = {{0, 0}, {9, 0}, {0, 9}, {9, 9}, {2, 3}};
        for (int[] n : numbers) {
            x.turns(0, n[0]);
            x.turns(2, n[1]);
            due(8 + 4 * n[0] + 8 * n[1], x.proves());
        }
    }

    void p28_withoutOrdersOrTurns() {
        due(0, x.proves());
        orders(LONG, 0, 0, 0);
        due(17, x.proves());
    }

    void p28_noneIfATurnHasNoNumber() {
        orders(BRANCH, 0, 0, 0, BRANCH, 0, 0, 0);
        due(NONE, x.proves());
        x.turns(0, 0);
        due(NONE, x.proves());
        x.turns(2, 0);
        due(8, x.proves());
        // Even one to which nothing leads.
        x.clear();
        orders(CALL, 0, 2, 0, CALL, 0, 1, 0, ORDER, 0, 0, 0);
        due(3, x.bound());
        due(NONE, x.proves());
        x.turns(1, 0);
        due(3, x.proves());
        refused(BoundSentencesTest::unbound, NONE, y -> y.proves());
    }

    void p28_whereTheBoundIsSpent() {
        fourRounds(x);
        numberRounds(x, 4);
        due(SPENT, x.bound());
        due(16 + 4 * (4 + 8 + 12 + 16), x.proves());
    }

    // ---- 29: LOCKS of k (0 .. 8): what 0 BOUND by them, 1 the set (bits of LINES). BAD; as bound() (all as it is).

    void p29_kIs0To8() {
        for (int k : new int[] {-1, 9, LOW, HIGH}) {
            due(BAD, x.locks(k, 0));
            due(BAD, x.locks(k, 1));
        }
        for (int what : new int[] {-1, 2, LOW, HIGH}) {
            due(BAD, x.locks(0, what));
        }
        loads("", 0, 1, 2, 3, 4, 5, 6, 7, 8);
        for (int k = 0; k <= 8; k++) {
            due(9 + 10 * (9 - k), x.locks(k, 0));
            due((1 << k) - 1, x.locks(k, 1));
        }
    }

    void p29_withoutOrders() {
        due(0, x.locks(8, 0));
        due(0, x.locks(8, 1));
    }

    /** "for which BOUND ... is least" */
    void p29_theLeastBound() {
        // Line 5 is asked three times and missed each time.
        loads("ways 1", 0, 5, 1, 5, 2, 5);
        due(66, x.bound());
        due(66 - 30, x.locks(1, 0));
        due(1 << 5, x.locks(1, 1));
        // Without lines 1 and 2 line 5 stays: that is as good as line 5 and line 0, and less as bits.
        due(66 - 40, x.locks(2, 0));
        due(1 << 1 | 1 << 2, x.locks(2, 1));
        due(66 - 50, x.locks(3, 0));
        due(1 | 1 << 1 | 1 << 2, x.locks(3, 1));
    }

    /** "of several with the fewest" */
    void p29_theFewest() {
        // The way by order 1 is not the costliest, so that its line is of no use.
        orders(BRANCH, 0, 3, 0, LOAD, 0, 4, 10, CALL, 0, 4, 0, LONG, 0, 0, 0);
        due(21, x.bound());
        due(21, x.locks(8, 0));
        due(0, x.locks(8, 1));
        // Two lines on the costlier way, one on the other: none is of use without another.
        x.clear();
        orders(BRANCH, 0, 3, 0, LOAD, 0, 4, 2, CALL, 0, 5, 0, LOAD, 0, 4, 4, CALL, 0, 5, 0);
        due(17, x.locks(0, 0));
        due(17, x.locks(1, 0));
        due(0, x.locks(1, 1));
        due(7, x.locks(2, 0));
        due(6, x.locks(2, 1));
        due(6, x.locks(8, 1));
    }

    /** "then the least as bits of LINES" */
    void p29_theLeastAsBits() {
        loads("", 15, 3, 9);
        due(1 << 3, x.locks(1, 1));
        due(1 << 3 | 1 << 9, x.locks(2, 1));
        due(1 << 3 | 1 << 9 | 1 << 15, x.locks(3, 1));
        due(3, x.locks(3, 0));
    }

    /** "(of those that are told by c in LOADS, 8 at most: the least)" */
    void p29_linesThatAreToldByC() {
        // Of 9 lines the 8 least alone, though line 8 would spare most.
        loads("ways 1", 8, 7, 8, 6, 8, 5, 8, 4, 8, 3, 8, 2, 8, 1, 8, 0, 8);
        due(1, x.locks(1, 1));
        due(0xff, x.locks(8, 1));
        // Loads to which nothing leads tell lines, too: they take the place of one that would be of use.
        loads("", 8);
        x.order(CALL, 0, 28, 0);
        for (int line = 0; line < 8; line++) {
            due(3, x.locks(8, 0));
            x.order(LOAD, 1, 4, 2 * line);
        }
        due(13, x.locks(8, 0));
        due(0, x.locks(8, 1));
        // Lines that are not told are none of the 8.
        loads("", 8, 7, 6, 5, 4, 3, 2, 1);
        due(0x1fe, x.locks(8, 1));
        due(8, x.locks(8, 0));
        loads("", 15, 14, 13, 12, 11, 10, 9, 8);
        due(0xff00, x.locks(8, 1));
        // Stores are loads; a line not told is none.
        fresh();
        orders(LOAD, 0, 1, 4, STORE, 0, 4, 31);
        due(1 << 15, x.locks(8, 1));
        due(11 + 1 + 2, x.locks(8, 0));
    }

    /** "if just these were LOCKED": those that are locked now are not, unless they are of the set. */
    void p29_justThese() {
        loads("", 0, 1, 2);
        x.lock(2, 1);
        due(23, x.bound());
        due(33, x.locks(0, 0));
        due(0, x.locks(0, 1));
        due(23, x.locks(1, 0));
        due(1, x.locks(1, 1));
    }

    /** "as bound() (all as it is)" */
    void p29_asBoundAndAllAsItIs() {
        loop();
        due(NONE, x.locks(0, 0));
        due(NONE, x.locks(8, 1));
        due(BAD, x.locks(9, 0));
        fresh();
        fourRounds(x);
        numberRounds(x, 4);
        due(SPENT, x.locks(0, 0));
        due(SPENT, x.locks(8, 1));
        due(BAD, x.locks(8, 2));
        Maker asked = () -> {
            TickBound y = rich();
            y.locks(8, 1);
            return y;
        };
        same(Sentences::rich, y -> y.bound(), asked, y -> y.bound());
        due(rich().locks(8, 0), asked.make().locks(8, 0));
    }

    void p29_refusedChangesNothing() {
        refused(BAD, y -> y.locks(9, 0));
        refused(BAD, y -> y.locks(-1, 0));
        refused(BAD, y -> y.locks(0, 2));
        refused(BoundSentencesTest::unbound, NONE, y -> y.locks(0, 0));
        refused(BoundSentencesTest::spent, SPENT, y -> y.locks(0, 0));
    }

    // ---- 30: SHARED by n (1 .. 9) with a LINE TIME (0 .. 99). BAD; as bound().

    /** "BOUND, if MISS were MISS and n - 1 times LINE TIME more" */
    void p30_byNAndLineTime() {
        loads("miss 99", 0, 0, 1);
        int own = 3 + 2 * 99;
        due(own, x.shared(1, 0));
        due(own, x.shared(1, 99));
        due(own, x.shared(9, 0));
        due(own + 2 * 8 * 99, x.shared(9, 99));
        due(own + 2 * 7, x.shared(2, 7));
    }

    void p30_leastAndGreatest() {
        for (int n : new int[] {0, -1, 10, LOW, HIGH}) {
            due(BAD, x.shared(n, 0));
        }
        for (int time : new int[] {-1, 100, LOW, HIGH}) {
            due(BAD, x.shared(1, time));
        }
        due(0, x.shared(1, 0));
        due(0, x.shared(9, 99));
    }

    void p30_lockedLinesAreHitsStill() {
        loads("", 0, 1);
        x.lock(1, 1);
        due(2 + 10 + 8 * 99, x.shared(9, 99));
    }

    void p30_asBoundAndAllAsItIs() {
        loop();
        due(NONE, x.shared(1, 0));
        due(BAD, x.shared(0, 0));
        fresh();
        fourRounds(x);
        numberRounds(x, 4);
        due(SPENT, x.shared(9, 99));
        due(BAD, x.shared(9, 100));
        same(Sentences::rich, y -> y.bound(), () -> {
            TickBound y = rich();
            y.shared(9, 99);
            return y;
        }, y -> y.bound());
    }

    void p30_refusedChangesNothing() {
        refused(BAD, y -> y.shared(0, 0));
        refused(BAD, y -> y.shared(10, 0));
        refused(BAD, y -> y.shared(1, -1));
        refused(BAD, y -> y.shared(1, 100));
        refused(BoundSentencesTest::unbound, NONE, y -> y.shared(2, 2));
        refused(BoundSentencesTest::spent, SPENT, y -> y.shared(2, 2));
    }

    // ---- 31: One more WORK: its number. BAD; FULL.

    /** "TICKS 1 .. 9999, PERIOD 1 .. 9999" */
    void p31_leastAndGreatest() {
        due(0, x.work(1, 1));
        due(1, x.work(9999, 9999));
        due(2, x.work(9999, 1));
        due(3, x.work(1, 9999));
        for (int v : new int[] {0, -1, 10000, LOW, HIGH}) {
            due(BAD, x.work(v, 1));
            due(BAD, x.work(1, v));
        }
        due(4, x.count(4));
    }

    /** "WORKS, 8 at most, numbered from 0" */
    void p31_8AtMost() {
        for (int i = 0; i < 8; i++) {
            due(i, x.work(1, 100));
        }
        due(FULL, x.work(1, 100));
        due(BAD, x.work(0, 100));
        due(BAD, x.work(1, 10000));
        due(8, x.count(4));
        due(8, x.answer(7));
    }

    void p31_refusedChangesNothing() {
        refused(BAD, y -> y.work(0, 1));
        refused(BAD, y -> y.work(1, 10000));
        refused(() -> {
            TickBound y = rich();
            for (int i = 2; i < 8; i++) {
                y.work(i, 10 * i);
            }
            return y;
        }, FULL, y -> y.work(1, 1));
    }

    // ---- 32: ANSWER of a WORK. BAD; NONE: above its PERIOD.

    /** "the least R of 1 and more that is its TICKS and, of each that ranks higher, TICKS times R / PERIOD, up" */
    void p32_theLeastR() {
        x.work(1, 2);
        x.work(1, 9999);
        // 2 is 1 and 1 times 1; 3 would be one, too.
        due(1, x.answer(0));
        due(2, x.answer(1));
        fresh();
        x.work(1, 4);
        x.work(2, 6);
        x.work(3, 13);
        due(1, x.answer(0));
        due(3, x.answer(1));
        due(10, x.answer(2));
    }

    /** Up: at a whole number of periods none more, right behind it one more. */
    void p32_upToWholeNumbers() {
        x.work(2, 5);
        x.work(3, 9999);
        due(5, x.answer(1));
        x.work(1, 9999);
        // 3 + 1 and 2 times 2: 8.
        due(8, x.answer(2));
    }

    /** "NONE: above its PERIOD" */
    void p32_noneAboveItsPeriod() {
        x.work(3, 5);
        x.work(2, 5);
        due(5, x.answer(1));
        x.work(1, 8);
        due(NONE, x.answer(2));
        fresh();
        x.work(5, 5);
        due(5, x.answer(0));
        x.work(1, 9999);
        due(NONE, x.answer(1));
        fresh();
        x.work(6, 5);
        due(NONE, x.answer(0));
        fresh();
        x.work(9998, 9999);
        x.work(1, 9999);
        due(9999, x.answer(1));
        fresh();
        x.work(9998, 9999);
        x.work(1, 9998);
        due(NONE, x.answer(1));
    }

    /** Only those that rank higher count, whether they have an answer or not. */
    void p32_thoseThatRankHigherAlone() {
        x.work(9, 3);
        x.work(1, 9999);
        x.work(1, 1);
        due(NONE, x.answer(0));
        due(NONE, x.answer(1));
        fresh();
        x.work(4, 10);
        x.work(9999, 9999);
        due(4, x.answer(0));
    }

    void p32_greatestSums() {
        for (int i = 0; i < 8; i++) {
            x.work(9999, 1);
        }
        for (int i = 0; i < 8; i++) {
            due(NONE, x.answer(i));
        }
        fresh();
        for (int i = 0; i < 7; i++) {
            x.work(9999, 1);
        }
        x.work(9999, 9999);
        due(NONE, x.answer(7));
        // A row of many steps up to the greatest answer.
        fresh();
        x.work(1, 2);
        x.work(4999, 9999);
        due(9998, x.answer(1));
    }

    void p32_bad() {
        due(BAD, x.answer(0));
        x.work(1, 1);
        for (int work : new int[] {-1, 1, 8, LOW, HIGH}) {
            due(BAD, x.answer(work));
        }
        refused(BAD, y -> y.answer(2));
        refused(BAD, y -> y.answer(-1));
        refused(() -> {
            TickBound y = rich();
            y.work(9999, 1);
            return y;
        }, NONE, y -> y.answer(2));
    }

    // ---- 33: Whether all WORKS have an ANSWER: -1; else the first that has none.

    void p33_fits() {
        due(-1, x.fits());
        x.work(5, 5);
        due(-1, x.fits());
        x.work(1, 9999);
        due(1, x.fits());
        x.work(2, 1);
        due(1, x.fits());
        fresh();
        x.work(2, 1);
        due(0, x.fits());
        fresh();
        for (int i = 0; i < 7; i++) {
            x.work(1, 8);
        }
        due(-1, x.fits());
        x.work(1, 8);
        due(-1, x.fits());
        fresh();
        for (int i = 0; i < 7; i++) {
            x.work(1, 8);
        }
        x.work(2, 8);
        due(7, x.fits());
    }

    public static void main(String[] args) throws Exception {
        runAll(BoundSentencesTest.class, 24, 33);
    }
}
