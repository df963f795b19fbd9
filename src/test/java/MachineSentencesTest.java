/** Promises 1 to 7, and what "Terms" 1 says of machine, tape, memory and lines, sentence by sentence. */
public final class MachineSentencesTest extends Sentences {
    private static final String[] NAMES = {"sets", "ways", "rule", "miss", "wrong", "guess", "stall", "long"};
    /** What each part may be told to be, other than at first. */
    private static final String[] TOLD = {"4", "1", "tree", "99", "9", "last", "9", "0"};
    private static final int[] AT_FIRST = {1, 2, 0, 10, 3, 0, 1, 2};
    private static final int[] AS_TOLD = {4, 1, 2, 99, 9, 2, 9, 0};

    private void machineIs(int... want) {
        for (int i = 0; i < want.length; i++) {
            due(want[i], x.is(i));
        }
    }

    // ---- 1: As told; no ORDERS.

    void p01_noOrders() {
        due(0, x.count(0));
        due(0, x.edges());
        due(0, x.blocks());
        due(0, x.count(1));
        due(0, x.count(2));
        due(BAD, x.told(0, 0));
        due(BAD, x.edge(0, 0));
        due(BAD, x.block(0, 0));
        due(BAD, x.as(0, 0));
        due(BAD, x.places(0, 0));
        due(BAD, x.age(0, 0));
        due(BAD, x.may(0, 0));
        due(BAD, x.factor(0));
        due(BAD, x.shares(0));
        due(BAD, x.turns(0, 0));
    }

    void p01_theMachineAtFirst() {
        machineIs(AT_FIRST);
        due(2, x.is(8));
    }

    void p01_memoryIs0AtFirst() {
        for (int i = 0; i < 32; i++) {
            due(0, x.memory(i, 1));
        }
    }

    void p01_noLineIsLockedAtFirst() {
        due(0, x.count(3));
        for (int i = 0; i < 16; i++) {
            due(0, x.lock(i, 1));
        }
    }

    void p01_sheetsAreMissingAtFirst() {
        for (int i = 0; i < 4; i++) {
            due(NOTHING, x.mark(i, 0, 0));
            due(NOTHING, x.lay(0, 2, i));
        }
    }

    void p01_slotsHoldNothingAtFirst() {
        for (int i = 0; i < 6; i++) {
            due(NOTHING, x.ask(i, 0));
            due(NOTHING, x.item(i, 0));
            due(0, x.lay(i, 0, 0));
        }
    }

    void p01_noWorksNoNumbersNoTape() {
        due(0, x.count(4));
        due(0, x.count(5));
        due(0, x.count(6));
        due(BAD, x.answer(0));
        due(-1, x.fits());
    }

    void p01_noRunNoImage() {
        due(NO, x.ran(0));
        due(NO, x.step(0, 0));
        due(NO, x.record());
        due(NO, x.back());
    }

    void p01_objectsHaveNothingInCommon() {
        TickBound other = rich();
        p01_theMachineAtFirst();
        p01_noRunNoImage();
        p01_noWorksNoNumbersNoTape();
        p01_noOrders();
        due(9, other.count(0));
    }

    void p01_theConstants() {
        due(BAD, TickBound.BAD);
        due(NO, TickBound.NO);
        due(FULL, TickBound.FULL);
        due(SPENT, TickBound.SPENT);
        due(NONE, TickBound.NONE);
        due(NOTHING, TickBound.NOTHING);
        due(KIND, TickBound.KIND);
        due(INDEX, TickBound.INDEX);
        due(SIZE, TickBound.SIZE);
    }

    // ---- 2: Twelve bytes come to THE TAPE, the highest of each number first: how many it has.

    void p02_twelveBytesEachTime() {
        for (int i = 1; i <= 8; i++) {
            due(12 * i, x.feed(i, -i, LOW));
            due(12 * i, x.count(6));
        }
    }

    void p02_fullIfItWouldHaveMoreThan96() {
        for (int i = 0; i < 8; i++) {
            x.feed(0, 0, 0);
        }
        due(FULL, x.feed(0, 0, 0));
        due(95, x.trim(95));
        due(FULL, x.feed(0, 0, 0));
        due(85, x.trim(85));
        due(FULL, x.feed(0, 0, 0));
        due(84, x.trim(84));
        due(96, x.feed(0, 0, 0));
    }

    void p02_theHighestByteOfEachNumberFirst() {
        // "miss", " 7 w", "rong"
        x.feed(0x6d697373, 0x20372077, 0x726f6e67);
        // " 5  ", "long", " 1  "
        due(24, x.feed(0x20352020, 0x6c6f6e67, 0x20312020));
        due(3, x.machine());
        machineIs(1, 2, 0, 7, 5, 0, 1, 1);
    }

    void p02_bytesAbove127AreBytes() {
        // "sets", then 255, 128, 254, 129: the first sign is at 4.
        x.feed(0x73657473, 0xff80fe81, 0);
        due(-104, x.machine());
        // Such a byte behind a blank.
        x.feed(0x73657473, 0x20342080, 0);
        due(-107, x.machine());
    }

    void p02_fullChangesNothing() {
        Maker full = () -> {
            TickBound y = rich();
            y.trim(0);
            feedText(y, "miss 30 wrong 2" + blanks(81));
            return y;
        };
        due(96, full.make().count(6));
        refused(full, FULL, y -> y.feed(0x73657473, 0x20342020, 0x20202020));
        Maker eleven = () -> {
            TickBound y = full.make();
            y.trim(85);
            return y;
        };
        refused(eleven, FULL, y -> y.feed(-1, -1, -1));
    }

    // ---- 3: THE TAPE keeps its first n bytes: n. BAD.

    void p03_keepsTheFirstBytes() {
        feedText(x, "miss 12");
        due(6, x.trim(6));
        due(6, x.count(6));
        due(1, x.machine());
        due(1, x.is(3));
    }

    void p03_leastAndGreatest() {
        x.feed(0, 0, 0);
        due(12, x.trim(12));
        due(BAD, x.trim(13));
        due(BAD, x.trim(-1));
        due(12, x.count(6));
        due(0, x.trim(0));
        due(BAD, x.trim(1));
        due(0, x.count(6));
    }

    void p03_ofTheEmptyAndTheFullTape() {
        due(0, x.trim(0));
        due(BAD, x.trim(1));
        due(BAD, x.trim(-1));
        for (int i = 0; i < 8; i++) {
            x.feed(0, 0, 0);
        }
        due(BAD, x.trim(97));
        due(96, x.trim(96));
    }

    void p03_whatIsTrimmedIsGone() {
        feedText(x, "miss 12345");
        x.trim(5);
        due(BAD, x.trim(6));
        due(17, x.feed(0x37202020, 0x20202020, 0x20202020));
        due(1, x.machine());
        due(7, x.is(3));
    }

    void p03_badChangesNothing() {
        int[] bad = {-1, 16, 96, 97, LOW, HIGH};
        for (int n : bad) {
            refused(BAD, y -> y.trim(n));
        }
    }

    // ---- 4: THE MACHINE is as THE TAPE tells: how many PARTS that had.

    void p04_eachPartAlone() {
        for (int part = 0; part < 8; part++) {
            fresh();
            due(1, machine(NAMES[part] + " " + TOLD[part]));
            int[] want = AT_FIRST.clone();
            want[part] = AS_TOLD[part];
            machineIs(want);
        }
    }

    void p04_howManyParts() {
        StringBuilder text = new StringBuilder();
        for (int many = 1; many <= 8; many++) {
            text.append(text.length() > 0 ? " " : "").append(NAMES[8 - many]).append(' ').append(TOLD[8 - many]);
            fresh();
            due(many, machine(text.toString()));
        }
        machineIs(AS_TOLD);
    }

    void p04_whatIsNotToldStaysAsItIs() {
        machine("miss 50 ways 4");
        due(1, machine("long 7"));
        machineIs(1, 4, 0, 50, 3, 0, 1, 7);
    }

    /** "PARTS, one at least" */
    void p04_onePartAtLeast() {
        due(-100, x.machine());
        due(-101, machine(" "));
        due(-196, machine(blanks(96)));
    }

    /** "each at most once": "a part told again" is a FAULT, at its name. */
    void p04_eachPartAtMostOnce() {
        for (int part = 0; part < 8; part++) {
            String one = NAMES[part] + " " + TOLD[part];
            fresh();
            due(-100 - one.length() - 1, machine(one + " " + one));
            machineIs(AT_FIRST);
        }
        StringBuilder all = new StringBuilder();
        for (int part = 0; part < 8; part++) {
            all.append(NAMES[part]).append(' ').append(TOLD[part]).append(' ');
        }
        due(-100 - all.length(), machine(all + "sets 1"));
        due(-100 - all.length(), machine(all + "x"));
    }

    void p04_setsAndWaysAre1_2Or4() {
        String[] names = {"sets", "ways"};
        for (int i = 0; i < 2; i++) {
            for (int n : new int[] {1, 2, 4}) {
                due(1, machine(names[i] + " " + n));
                due(n, x.is(i));
            }
            for (int n : new int[] {0, 3, 5, 6, 8, 10, 41, 100, 999}) {
                due(NO, machine(names[i] + " " + n));
                due(4, x.is(i));
            }
        }
    }

    void p04_missIs0To99() {
        due(1, machine("miss 0"));
        due(0, x.is(3));
        due(1, machine("miss 99"));
        due(99, x.is(3));
        due(NO, machine("miss 100"));
        due(NO, machine("miss 999"));
        due(99, x.is(3));
    }

    void p04_wrongStallAndLongAre0To9() {
        int[] parts = {4, 6, 7};
        for (int part : parts) {
            due(1, machine(NAMES[part] + " 0"));
            due(0, x.is(part));
            due(1, machine(NAMES[part] + " 9"));
            due(9, x.is(part));
            due(NO, machine(NAMES[part] + " 10"));
            due(NO, machine(NAMES[part] + " 99"));
            due(NO, machine(NAMES[part] + " 256"));
            due(9, x.is(part));
        }
    }

    void p04_rules() {
        String[] rules = {"age", "turn", "tree"};
        for (int i = 2; i >= 0; i--) {
            due(1, machine("rule " + rules[i]));
            due(i, x.is(2));
        }
        for (String no : new String[] {"never", "last", "ag", "ages", "tre", "trees", "turns", "0", "rule", "AGE", "-"}) {
            due(-105, machine("rule " + no));
        }
    }

    void p04_guesses() {
        String[] guesses = {"never", "always", "last"};
        for (int i = 2; i >= 0; i--) {
            due(1, machine("guess " + guesses[i]));
            due(i, x.is(5));
        }
        for (String no : new String[] {"age", "neve", "nevers", "alway", "lasts", "las", "2", "guess", "Last", "?"}) {
            due(-106, machine("guess " + no));
        }
    }

    /** "an N of more than 3 digits, too" is a FAULT. */
    void p04_anNHas3DigitsAtMost() {
        due(1, machine("miss 007"));
        due(7, x.is(3));
        due(1, machine("sets 004"));
        due(-105, machine("miss 0007"));
        due(-105, machine("miss 1000"));
        due(-105, machine("miss 00000000000000000001"));
        due(-105, machine("sets 0004"));
        due(-112, machine("miss 1 sets 4294967297"));
        due(7, x.is(3));
    }

    /** "A word is a row of letters a .. z, or of digits, as long as it goes". */
    void p04_wordsAreAsLongAsTheyGo() {
        due(-100, machine("set 4"));
        due(-100, machine("wets 4"));
        due(-105, machine("rule bge"));
        due(-100, machine("setss 4"));
        due(-100, machine("setsways 4"));
        due(-100, machine("ruleage"));
        due(-100, machine("4"));
        due(-105, machine("sets four"));
        due(-107, machine("sets 4 4"));
        due(-107, machine("sets 4 waysl 1"));
        due(-109, machine("rule age age"));
    }

    /** "any other byte is a sign by itself (no MACHINE has one)". */
    void p04_everyOtherByteIsAFault() {
        for (int b = 0; b < 256; b++) {
            boolean letter = b >= 'a' && b <= 'z';
            boolean digit = b >= '0' && b <= '9';
            String s = String.valueOf((char) b);
            fresh();
            due(b == 32 ? -101 : -100, machine(s));
            due(b == 32 ? 1 : -107, machine("miss 5 " + s));
            due(b == 32 ? 1 : digit ? 1 : -106, machine("miss 5" + s));
            due(b == 32 ? -106 : digit ? 1 : -105, machine("miss " + s));
            due(b == 32 ? -105 : letter ? -100 : -104, machine("miss" + s));
        }
    }

    /** "Between words there may be blanks" */
    void p04_anyNumberOfBlanks() {
        due(2, machine("miss" + blanks(40) + "5" + blanks(30) + "long 4"));
        machineIs(1, 2, 0, 5, 3, 0, 1, 4);
        due(1, machine("   miss 6"));
        due(1, machine("miss 7   "));
        due(7, x.is(3));
    }

    /** "a word right behind another one needs one" (a blank) */
    void p04_aWordNeedsABlankAheadOfIt() {
        due(-104, machine("sets4"));
        due(-106, machine("sets 4ways 1"));
        due(-108, machine("rule age4"));
        due(-101, machine(" 4sets 1"));
        due(-107, machine("miss 12long 1"));
        due(-111, machine("guess never1"));
        machineIs(AT_FIRST);
    }

    /** "the end (the place behind the last byte), if it comes too soon" */
    void p04_theEndTooSoon() {
        for (int part = 0; part < 8; part++) {
            due(-100 - NAMES[part].length(), machine(NAMES[part]));
            due(-100 - NAMES[part].length() - 3, machine(NAMES[part] + "   "));
        }
        due(-111, machine("sets 4 ways"));
        due(-112, machine("sets 4 ways "));
        machineIs(AT_FIRST);
        due(-196, machine(blanks(92) + "sets"));
        due(-196, machine("sets" + blanks(92)));
    }

    void p04_ofTheFullTape() {
        due(1, machine(blanks(90) + "sets 4"));
        due(4, x.is(0));
        due(1, machine("sets 2" + blanks(90)));
        due(2, x.is(0));
        due(-195, machine(blanks(90) + "sets x"));
        due(-195, machine("sets 4" + blanks(89) + "x"));
    }

    /** A WRONG TEXT is one that is right but for an N: a FAULT stands first. */
    void p04_aFaultGoesAheadOfAWrongText() {
        due(-107, machine("sets 3 foo 1"));
        due(-107, machine("sets 3 sets 4"));
        due(-106, machine("sets 3;"));
        due(-111, machine("sets 3 ways"));
        due(NO, machine("sets 3 ways 3"));
        due(NO, machine("ways 4 sets 3"));
        due(NO, machine("sets 3 ways 4"));
        machineIs(AT_FIRST);
    }

    /** "an act that reads it uses it up, whatever it answers" */
    void p04_theTapeIsUsedUpWhateverIsAnswered() {
        String[] texts = {"sets 4", "sets 3", "sets", "?", ""};
        for (String text : texts) {
            machine(text);
            due(0, x.count(6));
            due(BAD, x.trim(1));
            due(12, x.feed(0, 0, 0));
            x.trim(0);
        }
        machine("sets 4");
        due(-100, x.machine());
    }

    /** What is refused changes nothing but the tape. */
    void p04_aFaultOrWrongTextChangesNothingButTheTape() {
        String[] texts = {"miss 7 sets 3", "miss 7 sets", "miss 7 miss 8", "miss 7 x", "long 10", "", "miss 0001"};
        int[] answers = {NO, -111, -107, -107, NO, -100, -105};
        Maker noTape = () -> {
            TickBound y = rich();
            y.trim(0);
            return y;
        };
        for (int i = 0; i < texts.length; i++) {
            int answer = answers[i];
            String text = texts[i];
            Maker thisTape = () -> {
                TickBound y = noTape.make();
                feedText(y, text);
                return y;
            };
            same(noTape, y -> answer, thisTape, y -> y.machine());
        }
    }

    /** "(or it goes: ... THE MACHINE ... came)", even one of a single part, or as it was. */
    void p04_whatTheRunToldGoes() {
        for (String text : new String[] {"miss 5", "miss 5", "miss 10 long 2"}) {
            loop();
            x.run(0);
            due(0, x.ran(12));
            machine(text);
            due(NO, x.ran(12));
        }
    }

    /** Costs and bounds are those of the machine at once. */
    void p04_boundsAreByTheMachineNow() {
        loads("", 0, 1, 0);
        due(23, x.bound());
        due(0, x.age(1, 0));
        due(1, machine("miss 20"));
        due(43, x.bound());
        due(21, x.told(0, 6));
        due(1, machine("ways 1"));
        due(63, x.bound());
        due(NONE, x.age(2, 0));
        due(2, x.told(2, 7));
    }

    void p04_numbersOfTurnsStay() {
        loop();
        x.turns(1, 2);
        due(1, machine("miss 5"));
        due(2, x.edge(1, 3));
    }

    // ---- 5: what 0 SETS .. 7 LONG, 8 REMEMBERS. BAD.

    void p05_what0To8() {
        due(8, machine("long 8 stall 7 guess last wrong 5 miss 44 rule turn ways 4 sets 2"));
        machineIs(2, 4, 1, 44, 5, 2, 7, 8, 1);
    }

    void p05_bad() {
        for (int what : new int[] {-1, 9, LOW, HIGH}) {
            due(BAD, x.is(what));
        }
        refused(BAD, y -> y.is(-1));
        refused(BAD, y -> y.is(9));
    }

    /** "REMEMBERS: by AGE WAYS; by TURN 1; by TREE 1, 2, 3 with 1, 2, 4 WAYS" */
    void p05_remembers() {
        String[] rules = {"age", "turn", "tree"};
        int[][] want = {{1, 2, 4}, {1, 1, 1}, {1, 2, 3}};
        for (int rule = 0; rule < 3; rule++) {
            for (int i = 0; i < 3; i++) {
                machine("rule " + rules[rule] + " ways " + (1 << i));
                due(want[rule][i], x.is(8));
            }
        }
    }

    // ---- 6: A word of MEMORY becomes v: what it was. BAD.

    void p06_leastAndGreatestAddress() {
        due(0, x.memory(0, 5));
        due(0, x.memory(31, 6));
        due(BAD, x.memory(-1, 7));
        due(BAD, x.memory(32, 7));
        due(BAD, x.memory(LOW, 7));
        due(BAD, x.memory(HIGH, 7));
        due(5, x.memory(0, 0));
        due(6, x.memory(31, 0));
    }

    void p06_anyIntAndWhatItWas() {
        int[] all = {HIGH, LOW, -1, 1, 0};
        int was = 0;
        for (int v : all) {
            due(was, x.memory(17, v));
            was = v;
        }
    }

    void p06_eachWordIsItsOwn() {
        for (int i = 0; i < 32; i++) {
            x.memory(i, 100 + i);
        }
        for (int i = 0; i < 32; i++) {
            due(100 + i, x.memory(i, 0));
        }
    }

    void p06_badChangesNothing() {
        refused(BAD, y -> y.memory(-1, 9));
        refused(BAD, y -> y.memory(32, 9));
    }

    void p06_whatTheRunToldStays() {
        orders(LOAD, 1, 4, 0);
        x.run(0);
        x.memory(0, 9);
        due(0, x.ran(7));
        x.run(0);
        due(9, x.ran(7));
    }

    // ---- 7: A LINE (0 .. 15) is LOCKED (on 1), or not (0): what it was. BAD.

    void p07_leastAndGreatestLine() {
        due(0, x.lock(0, 1));
        due(0, x.lock(15, 1));
        for (int line : new int[] {-1, 16, 31, 32, 47, -16, LOW, HIGH}) {
            due(BAD, x.lock(line, 1));
            due(BAD, x.lock(line, 0));
        }
        due(2, x.count(3));
    }

    void p07_onIs0Or1() {
        due(BAD, x.lock(3, 2));
        due(BAD, x.lock(3, -1));
        due(BAD, x.lock(3, HIGH));
        due(BAD, x.lock(3, LOW));
        due(0, x.count(3));
        due(0, x.lock(3, 1));
        due(BAD, x.lock(3, 2));
        due(1, x.lock(3, 1));
    }

    void p07_whatItWas() {
        due(0, x.lock(7, 0));
        due(0, x.lock(7, 1));
        due(1, x.lock(7, 1));
        due(1, x.lock(7, 0));
        due(0, x.lock(7, 0));
    }

    void p07_allLines() {
        for (int i = 0; i < 16; i++) {
            due(0, x.lock(i, 1));
            due(i + 1, x.count(3));
        }
        for (int i = 0; i < 16; i++) {
            due(1, x.lock(i, 0));
        }
        due(0, x.count(3));
    }

    void p07_badChangesNothing() {
        refused(BAD, y -> y.lock(16, 1));
        refused(BAD, y -> y.lock(-1, 0));
        refused(BAD, y -> y.lock(3, 2));
        refused(BAD, y -> y.lock(3, -1));
    }

    /** "a LINE is two words (LINE: address / 2)" */
    void p07_aLineIsTwoWords() {
        x.lock(15, 1);
        x.lock(1, 1);
        orders(LOAD, 1, 4, 1, LOAD, 1, 4, 2, LOAD, 1, 4, 3, LOAD, 1, 4, 4, LOAD, 1, 4, 29, LOAD, 1, 4, 30, LOAD, 1, 4, 31);
        due("mhhmmhh", asked());
    }

    /** "A LINE that is LOCKED is a HIT always, and never in THE CACHE." */
    void p07_lockedIsAHitAlwaysAndNeverInTheCache() {
        loads("ways 1", 0, 1, 0, 1);
        due("mmmm", asked());
        x.lock(1, 1);
        due("mhhh", asked());
        due(3, x.ran(2));
        due(1, x.ran(3));
        x.lock(1, 0);
        due("mmmm", asked());
    }

    void p07_whatTheRunToldAndNumbersOfTurnsStay() {
        loop();
        x.turns(1, 2);
        x.run(0);
        x.lock(0, 1);
        due(12, x.ran(0));
        due(2, x.edge(1, 3));
    }

    void p07_boundsAreAsLinesAreLockedNow() {
        loads("", 0, 1);
        due(22, x.bound());
        x.lock(1, 1);
        due(12, x.bound());
        due(0, x.told(1, 7));
        x.lock(1, 0);
        due(22, x.bound());
        due(1, x.told(1, 7));
    }

    public static void main(String[] args) throws Exception {
        runAll(MachineSentencesTest.class, 1, 7);
    }
}
