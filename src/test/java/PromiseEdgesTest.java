import java.util.function.Supplier;
import java.util.function.ToIntFunction;

/**
 * The promises 1 to 21, one by one: what each sentence of theirs answers at its edges, and that a call
 * that is refused answers as told and changes nothing.
 */
public final class PromiseEdgesTest {
    private static final int BAD = Due.BAD, STATE = Due.STATE, FULL = Due.FULL, NONE = Due.NONE, NO = Due.NO;
    /** Numbers on both sides of every limit of a small number, and the ends of all. */
    private static final int[] SOME = {Integer.MIN_VALUE, -1000000, -9, -1, 0, 1, 2, 3, 4, 5, 6, 7, 8, 9, 10, 11,
        100, 65536, Integer.MAX_VALUE};
    private static final String SEVEN = "b10 10 2;t0;t10;t20;t30;t40;t50;t60;";
    private static final String NONE_STANDS = "t0;t50;t100;";
    private static final String[] TOLD = {"", "t5;", "t0;t450;", NONE_STANDS, SEVEN};

    // ---- objects that hold something in all places

    private static PulseTurns none() {
        return new PulseTurns();
    }

    /** Seven arrivals, a hundred letters, ten changes that can be undone, both images. */
    private static PulseTurns full() {
        PulseTurns x = Due.told("t0;t150;t300;t450;t600;");
        x.keep(0);
        for (int n = 0; n < 9; n++) {
            x.boxes(20 + n, 200 + n, n % 5);
        }
        x.adds(750);
        x.keep(1);
        x.boxes(100, 200, 2);
        x.adds(2999);
        Due.types(x, "b20 30 4;t8;" + " ".repeat(85) + "t9;");
        return x;
    }

    /** No period bears these out; one change, one image, a text with a fault in it. */
    private static PulseTurns empty() {
        PulseTurns x = Due.told("t0;t50;");
        x.adds(100);
        x.keep(1);
        Due.types(x, "t5;t5;");
        return x;
    }

    private static void refused(String call, Supplier<PulseTurns> made, ToIntFunction<PulseTurns> calls, int want) {
        Due.changesNothing(call, made, calls, want);
    }

    /** Refused with this answer, whatever the object holds. */
    private static void refusedAlways(String call, ToIntFunction<PulseTurns> calls, int want) {
        refused(call + " of none", PromiseEdgesTest::none, calls, want);
        refused(call + " of all full", PromiseEdgesTest::full, calls, want);
        refused(call + " of EMPTY", PromiseEdgesTest::empty, calls, want);
    }

    // ---- what is heard

    private static void promise1() {
        Due.sentence("`PulseTurns()`: As told; no ARRIVALS.");
        PulseTurns x = none();
        int[] want = {0, 100, 200, 2, 0, 0, 0, 0};
        for (int what = 0; what < want.length; what++) {
            Due.is("count(" + what + ")", x.count(what), want[what]);
        }
        Due.times("new", x);
        Due.is("undo()", x.undo(), STATE);
        Due.is("back(0)", x.back(0), STATE);
        Due.is("back(1)", x.back(1), STATE);
        Due.is("clear()", x.clear(), 0);
        PulseTurns other = none();
        x.adds(5);
        x.type('t');
        x.keep(0);
        Due.times("another object has its own arrivals", other);
        Due.is("its own text", other.count(6), 0);
        Due.is("its own images", other.back(0), STATE);
        Due.is("its own changes", other.undo(), STATE);
    }

    private static void promise2() {
        Due.sentence("`int type(int letter)`: A letter (0 .. 255) comes to THE TEXT: how many it has. BAD; FULL.");
        PulseTurns x = none();
        for (int letter = 0; letter < 256; letter++) {
            if (letter % 100 == 0) {
                x.clear();
            }
            Due.is("type(" + letter + ")", x.type(letter), letter % 100 + 1);
        }
        int[] wrong = {-1, 256, 257, 288, 65568, -224, Integer.MIN_VALUE, Integer.MAX_VALUE};
        for (int letter : wrong) {
            refusedAlways("type(" + letter + ")", y -> y.type(letter), BAD);
        }
        refused("type(0) of all full", PromiseEdgesTest::full, y -> y.type(0), FULL);
        refused("type(255) of all full", PromiseEdgesTest::full, y -> y.type(255), FULL);
    }

    private static void promise3() {
        Due.sentence("`int clear()`: THE TEXT is empty: how many letters it had.");
        refused("clear() of no letters", PromiseEdgesTest::none, x -> x.clear(), 0);
        PulseTurns x = full();
        Due.is("clear() of a hundred", x.clear(), 100);
        Due.is("letters", x.count(6), 0);
        Due.is("clear() again", x.clear(), 0);
        Due.state("nothing else is changed", x, 7, 100, 200, 2, 10);
        Due.is("type then", x.type('t'), 1);
        Due.is("the old letters are gone", x.heard(), -11);
        Due.is("clear() of one", x.clear(), 1);
        Due.is("image 0 is there still", x.back(0), 5);
        Due.is("image 1 is there still", x.back(1), 6);
    }

    private static void promise4() {
        Due.sentence("`int heard()`: THE TEXT tells all anew, and is empty then: how many ITEMS. -10 less FAULT:"
            + " nothing changes.");
        PulseTurns x = full();
        Due.is("heard()", x.heard(), 3);
        Due.times("all anew", x, 8, 9);
        Due.state("all anew", x, 2, 20, 30, 4, 0);
        Due.is("it is empty then", x.count(6), 0);
        Due.is("heard() of no letters", x.heard(), 0);
        Due.times("all anew", x);
        String[] faulty = {"x", "t5", "t5;t5;", "t1;t2;t3;t4;t5;t6;t7;t8;", "b20 30 4;b20 30 4;", "b20 30 5;",
            "t1;b20 30 4;t3000;", " ".repeat(99) + "t"};
        int[] want = {-10, -12, -14, -31, -19, -17, -23, -110};
        for (int i = 0; i < faulty.length; i++) {
            String letters = faulty[i];
            Supplier<PulseTurns> made = () -> fullButFor(letters);
            refused("heard() of '" + letters + "'", made, y -> y.heard(), want[i]);
        }
        refused("heard() of a fault, EMPTY", PromiseEdgesTest::empty, y -> y.heard(), -14);
    }

    private static PulseTurns fullButFor(String letters) {
        PulseTurns x = full();
        x.clear();
        Due.types(x, letters);
        return x;
    }

    private static void promise5() {
        Due.sentence("`int time(int k)`: TIME of an ARRIVAL. BAD.");
        for (String letters : TOLD) {
            PulseTurns x = Due.told(letters);
            for (int k : SOME) {
                boolean there = k >= 0 && k < x.count(0);
                Due.is("time(" + k + ") of " + letters + ": it is there", x.time(k) == BAD ? 0 : 1, there ? 1 : 0);
            }
        }
        Due.times("full", full(), 0, 150, 300, 450, 600, 750, 2999);
        refused("time(0) of none", PromiseEdgesTest::none, x -> x.time(0), BAD);
        refused("time(7) of seven", PromiseEdgesTest::full, x -> x.time(7), BAD);
        refusedAlways("time(-1)", x -> x.time(-1), BAD);
    }

    private static void promise6() {
        Due.sentence("`int adds(int time)`: ADDED: its number. BAD; STATE: there is one; FULL.");
        int[] wrong = {Integer.MIN_VALUE, -1, 3000, Integer.MAX_VALUE};
        for (int time : wrong) {
            refusedAlways("adds(" + time + ")", x -> x.adds(time), BAD);
        }
        int[] there = {0, 150, 300, 450, 600, 750, 2999};
        for (int time : there) {
            refused("adds(" + time + ") of seven", PromiseEdgesTest::full, x -> x.adds(time), STATE);
        }
        int[] others = {1, 149, 151, 2998};
        for (int time : others) {
            refused("adds(" + time + ") of seven", PromiseEdgesTest::full, x -> x.adds(time), FULL);
        }
        refused("adds(50) of EMPTY", PromiseEdgesTest::empty, x -> x.adds(50), STATE);
        int[] places = {0, 1, 2, 3, 4, 5, 6};
        for (int place : places) {
            PulseTurns x = Due.told("t10;t20;t30;t40;t50;t60;");
            Due.is("the seventh, at place " + place, x.adds(10 * place + 5), place);
            Due.is("its time", x.time(place), 10 * place + 5);
            Due.is("all are there", x.count(0), 7);
            Due.is("it may be undone", x.count(7), 1);
        }
    }

    private static void promise7() {
        Due.sentence("`int strikes(int k)`: STRUCK: its TIME. BAD.");
        refusedAlways("strikes(-1)", x -> x.strikes(-1), BAD);
        refusedAlways("strikes(7)", x -> x.strikes(7), BAD);
        refusedAlways("strikes(least)", x -> x.strikes(Integer.MIN_VALUE), BAD);
        refusedAlways("strikes(greatest)", x -> x.strikes(Integer.MAX_VALUE), BAD);
        refused("strikes(0) of none", PromiseEdgesTest::none, x -> x.strikes(0), BAD);
        refused("strikes(3) of three", PromiseEdgesTest::empty, x -> x.strikes(3), BAD);
        for (int k = 0; k < 7; k++) {
            PulseTurns x = Due.told(SEVEN);
            Due.is("strikes(" + k + ")", x.strikes(k), 10 * k);
            for (int a = 0; a < 6; a++) {
                Due.is("time(" + a + ")", x.time(a), a < k ? 10 * a : 10 * a + 10);
            }
            Due.is("time(6)", x.time(6), BAD);
            Due.is("it may be undone", x.count(7), 1);
        }
        PulseTurns one = Due.told("t2999;");
        Due.is("the only one", one.strikes(0), 2999);
        Due.times("none is left", one);
        Due.is("undone", one.undo(), 0);
        Due.times("it is there again", one, 2999);
    }

    private static void promise8() {
        Due.sentence("`int boxes(int low, int high, int slack)`: BOXED: STANDING then. BAD.");
        int[][] wrong = {{9, 200, 2}, {1000, 1000, 2}, {100, 99, 2}, {100, 1000, 2}, {100, 200, -1}, {100, 200, 25},
            {999, 999, 100}, {Integer.MIN_VALUE, 200, 2}, {100, Integer.MAX_VALUE, 2},
            {100, 200, Integer.MIN_VALUE}, {100, 200, Integer.MAX_VALUE}, {100, 200, 1 << 30}};
        for (int[] b : wrong) {
            String call = "boxes(" + b[0] + ", " + b[1] + ", " + b[2] + ")";
            refusedAlways(call, x -> x.boxes(b[0], b[1], b[2]), BAD);
        }
        PulseTurns x = Due.told("t0;t450;");
        Due.is("two stand", x.boxes(100, 200, 2), 2);
        Due.is("one stands", x.boxes(100, 120, 24), 1);
        Due.is("none stands", x.boxes(120, 140, 2), 0);
        Due.is("45 stand", x.boxes(10, 999, 2), 45);
        Due.state("the last box", x, 2, 10, 999, 2, 4);
        Due.is("of none", none().boxes(100, 200, 24), 0);
        Due.is("of one", Due.told("t5;").boxes(10, 10, 2), 1);
        Due.is("of seven", Due.told(SEVEN).boxes(10, 10, 0), 1);
        PulseTurns same = none();
        same.boxes(100, 200, 2);
        Due.is("the box that is there already can be undone too", same.count(7), 1);
    }

    private static void promise9() {
        Due.sentence("`int undo()`: UNDONE: how many more may be. STATE: none.");
        refused("undo() of none", PromiseEdgesTest::none, x -> x.undo(), STATE);
        for (String letters : TOLD) {
            refused("undo() of " + letters, () -> Due.told(letters), x -> x.undo(), STATE);
        }
        PulseTurns x = full();
        for (int more = 9; more >= 0; more--) {
            Due.is("undo()", x.undo(), more);
            Due.is("what may be undone", x.count(7), more);
        }
        // Twelve changes: the oldest two, boxes(20, ..) and boxes(21, ..), are lost.
        Due.state("ten are undone", x, 5, 21, 201, 1, 0);
        Due.is("an eleventh", x.undo(), STATE);
        Due.state("an eleventh changes nothing", x, 5, 21, 201, 1, 0);
        Due.is("letters stay", x.count(6), 100);
        Due.is("images stay", x.back(1), 6);
    }

    // ---- counts, boxes

    private static void promise10() {
        Due.sentence("COUNTS of two ARRIVALS by THE BOX (way = 0), by NARROWED (1): how many (what = 0), the least"
            + " (1; NONE), the greatest (2; NONE). BAD (i not below j, too); STATE: NARROWED is EMPTY.");
        for (String letters : TOLD) {
            countsAreBad(letters);
        }
        PulseTurns x = Due.told("t0;t150;t1050;");
        int[][] want = {{5, 6, 10}, {1, 7, 7}};
        for (int what = 0; what < 3; what++) {
            Due.is("by THE BOX: " + what, x.counts(0, 2, 0, what), want[0][what]);
            Due.is("by NARROWED: " + what, x.counts(0, 2, 1, what), want[1][what]);
            Due.is("EMPTY: " + what, empty().counts(0, 2, 1, what), STATE);
            Due.is("by THE BOX, none: " + what, empty().counts(0, 1, 0, what), what == 0 ? 0 : NONE);
        }
        refused("counts of EMPTY", PromiseEdgesTest::empty, y -> y.counts(0, 1, 1, 0), STATE);
        refused("counts(0, 0, 0, 0)", PromiseEdgesTest::full, y -> y.counts(0, 0, 0, 0), BAD);
        refused("counts(6, 5, 1, 0)", PromiseEdgesTest::full, y -> y.counts(6, 5, 1, 0), BAD);
        refused("counts(5, 6, 2, 0)", PromiseEdgesTest::full, y -> y.counts(5, 6, 2, 0), BAD);
        refused("counts(5, 7, 0, 0)", PromiseEdgesTest::full, y -> y.counts(5, 7, 0, 0), BAD);
    }

    private static void countsAreBad(String letters) {
        int many = Due.told(letters).count(0);
        int[] few = {Integer.MIN_VALUE, -1, 0, 1, 2, 3, 5, 6, 7, Integer.MAX_VALUE};
        int[] ways = {Integer.MIN_VALUE, -1, 0, 1, 2, Integer.MAX_VALUE};
        for (int i : few) {
            for (int j : few) {
                PulseTurns x = Due.told(letters);
                for (int way : ways) {
                    for (int what : new int[] {-1, 0, 1, 2, 3}) {
                        boolean fine = i >= 0 && i < j && j < many && way >= 0 && way < 2 && what >= 0 && what < 3;
                        String call = "counts(" + i + ", " + j + ", " + way + ", " + what + ") of " + letters;
                        Due.is(call + ": BAD", x.counts(i, j, way, what) == BAD ? 1 : 0, fine ? 0 : 1);
                    }
                }
            }
        }
    }

    private static void promise11() {
        Due.sentence("`int narrowed(int what)`: NARROWED: LOW's upper (what = 0), lower number (1), HIGH's (2, 3), in"
            + " least terms; NONE: EMPTY. BAD.");
        for (String letters : TOLD) {
            PulseTurns x = Due.told(letters);
            for (int what : SOME) {
                boolean fine = what >= 0 && what < 4;
                String call = "narrowed(" + what + ") of " + letters;
                Due.is(call + ": BAD", x.narrowed(what) == BAD ? 1 : 0, fine ? 0 : 1);
            }
        }
        int[][] want = {{100, 1, 200, 1}, {NONE, NONE, NONE, NONE}};
        for (int what = 0; what < 4; what++) {
            Due.is("narrowed of none", none().narrowed(what), want[0][what]);
            Due.is("narrowed of EMPTY", empty().narrowed(what), want[1][what]);
        }
        // Two turns, 298 by 2 to 306 by 2; ten turns, 1004 by 10; 1496 by 10.
        String[] told = {"b140 160 2;t0;t302;", "t0;t100;t1000;", "b140 150 2;t0;t150;t1500;"};
        int[][] leastTerms = {{149, 1, 153, 1}, {100, 1, 502, 5}, {748, 5, 150, 1}};
        for (int i = 0; i < told.length; i++) {
            for (int what = 0; what < 4; what++) {
                String call = "(" + what + ") of " + told[i];
                Due.is("narrowed" + call, Due.told(told[i]).narrowed(what), leastTerms[i][what]);
            }
        }
        refusedAlways("narrowed(4)", y -> y.narrowed(4), BAD);
        refusedAlways("narrowed(-1)", y -> y.narrowed(-1), BAD);
        refused("narrowed(0) of EMPTY", PromiseEdgesTest::empty, y -> y.narrowed(0), NONE);
    }

    // ---- numberings

    private static void promise12() {
        Due.sentence("The number of an ARRIVAL in the k-th NUMBERING that STANDS (0 on); NONE: not so many. BAD.");
        for (String letters : TOLD) {
            PulseTurns x = Due.told(letters);
            int standing = x.count(4);
            for (int k : SOME) {
                for (int a : SOME) {
                    boolean fine = k >= 0 && a >= 0 && a < x.count(0);
                    int kind = fine ? k < standing ? 0 : NONE : BAD;
                    String call = "number(" + k + ", " + a + ") of " + letters;
                    Due.is(call, Math.min(0, x.number(k, a)), kind);
                }
            }
        }
        // The last of 296 and the first that is not there.
        PulseTurns x = Due.told("b10 999 0;t0;t2999;");
        Due.is("number(0, 1)", x.number(0, 1), 4);
        Due.is("number(295, 1)", x.number(295, 1), 299);
        Due.is("number(296, 1)", x.number(296, 1), NONE);
        Due.is("number(296, 2)", x.number(296, 2), BAD);
        Due.is("seven, the last", Due.told(SEVEN).number(0, 6), 6);
        refusedAlways("number(-1, 0)", y -> y.number(-1, 0), BAD);
        refusedAlways("number(0, 7)", y -> y.number(0, 7), BAD);
        refused("number(0, 0) of EMPTY", PromiseEdgesTest::empty, y -> y.number(0, 0), NONE);
    }

    private static void promise13() {
        Due.sentence("`int box(int k, int what)`: BOX of the k-th: as narrowed(); NONE: not so many. BAD.");
        for (String letters : TOLD) {
            PulseTurns x = Due.told(letters);
            int standing = x.count(4);
            for (int k : SOME) {
                for (int what : SOME) {
                    boolean fine = k >= 0 && what >= 0 && what < 4;
                    int kind = fine ? k < standing ? 0 : NONE : BAD;
                    String call = "box(" + k + ", " + what + ") of " + letters;
                    Due.is(call, Math.min(0, x.box(k, what)), kind);
                }
            }
        }
        PulseTurns x = Due.told("t0;t450;");
        PulseTurns ten = Due.told("t0;t100;t1000;");
        int[][] want = {{446, 3, 454, 3}, {223, 2, 227, 2}, {NONE, NONE, NONE, NONE}};
        int[] wantOfTen = {100, 1, 502, 5};
        for (int what = 0; what < 4; what++) {
            for (int k = 0; k < 3; k++) {
                Due.is("box(" + k + ", " + what + ")", x.box(k, what), want[k][what]);
            }
            Due.is("least terms: box(0, " + what + ")", ten.box(0, what), wantOfTen[what]);
        }
        refusedAlways("box(-1, 0)", y -> y.box(-1, 0), BAD);
        refusedAlways("box(0, 4)", y -> y.box(0, 4), BAD);
        refused("box(0, 0) of none", PromiseEdgesTest::none, y -> y.box(0, 0), NONE);
    }

    private static void promise14() {
        Due.sentence("`int held(int gap, int what)`: HELD of a gap: how many (what = 0), the least (1; NONE), the"
            + " greatest (2; NONE). BAD.");
        for (String letters : TOLD) {
            PulseTurns x = Due.told(letters);
            for (int gap : SOME) {
                for (int what : SOME) {
                    boolean fine = gap >= 0 && gap < x.count(0) - 1 && what >= 0 && what < 3;
                    String call = "held(" + gap + ", " + what + ") of " + letters;
                    Due.is(call + ": BAD", x.held(gap, what) == BAD ? 1 : 0, fine ? 0 : 1);
                }
            }
        }
        int[] two = {2, 3, 4};
        for (int what = 0; what < 3; what++) {
            Due.is("two counts", Due.told("t0;t450;").held(0, what), two[what]);
            Due.is("the last gap of seven", Due.told(SEVEN).held(5, what), 1);
            Due.is("none stands", empty().held(1, what), what == 0 ? 0 : NONE);
        }
        refusedAlways("held(-1, 0)", y -> y.held(-1, 0), BAD);
        refusedAlways("held(6, 0)", y -> y.held(6, 0), BAD);
        refused("held(2, 0) of three", PromiseEdgesTest::empty, y -> y.held(2, 0), BAD);
        refused("held(0, 3) of seven", PromiseEdgesTest::full, y -> y.held(0, 3), BAD);
    }

    private static void promise15() {
        Due.sentence("`int bend(int i, int j, int k, int what)`: BEND: upper (what = 0), lower number (1), in least"
            + " terms (0 by 1). NO: BAD, none STANDS.");
        int[] few = {Integer.MIN_VALUE, -1, 0, 1, 2, 3, 5, 6, 7, Integer.MAX_VALUE};
        for (String letters : TOLD) {
            int many = Due.told(letters).count(0);
            boolean stands = Due.told(letters).count(4) > 0;
            for (int i : few) {
                for (int j : few) {
                    PulseTurns x = Due.told(letters);
                    for (int k : few) {
                        for (int what = -1; what < 3; what++) {
                            boolean rising = i >= 0 && i < j && j < k && k < many;
                            boolean fine = stands && rising && (what == 0 || what == 1);
                            String call = "bend(" + i + ", " + j + ", " + k + ", " + what + ") of " + letters;
                            Due.is(call + ": NO", x.bend(i, j, k, what) == NO ? 1 : 0, fine ? 0 : 1);
                        }
                    }
                }
            }
        }
        // Two turns of 301, then four of 602: 0, in least terms by 1.
        PulseTurns x = Due.told("b149 152 0;t0;t301;t903;");
        Due.is("0", x.bend(0, 1, 2, 0), 0);
        Due.is("by 1", x.bend(0, 1, 2, 1), 1);
        // Four turns by 602, two by 303: 606 by 4 less 602 by 4.
        PulseTurns y = Due.told("b149 152 1;t0;t602;t905;");
        Due.is("1", y.bend(0, 1, 2, 0), 1);
        Due.is("by 1", y.bend(0, 1, 2, 1), 1);
        refusedAlways("bend(0, 1, 7, 0)", z -> z.bend(0, 1, 7, 0), NO);
        refused("bend(0, 1, 2, 0) of EMPTY", PromiseEdgesTest::empty, z -> z.bend(0, 1, 2, 0), NO);
    }

    private static void promise16() {
        Due.sentence("`int left(int time)`: LEFT. BAD; STATE: there is an ARRIVAL; FULL: there are 7.");
        int[] wrong = {Integer.MIN_VALUE, -1, 3000, Integer.MAX_VALUE};
        for (int time : wrong) {
            refusedAlways("left(" + time + ")", x -> x.left(time), BAD);
        }
        refused("left(0) of seven", PromiseEdgesTest::full, x -> x.left(0), STATE);
        refused("left(2999) of seven", PromiseEdgesTest::full, x -> x.left(2999), STATE);
        refused("left(1) of seven", PromiseEdgesTest::full, x -> x.left(1), FULL);
        refused("left(50) of EMPTY", PromiseEdgesTest::empty, x -> x.left(50), STATE);
        refused("left(51) of EMPTY", PromiseEdgesTest::empty, x -> x.left(51), 0);
        refused("left(0) of none", PromiseEdgesTest::none, x -> x.left(0), 1);
        refused("left(2999) of none", PromiseEdgesTest::none, x -> x.left(2999), 1);
        PulseTurns six = Due.told("b10 10 2;t0;t10;t20;t30;t40;t50;");
        Due.is("the seventh", six.left(60), 1);
        Due.is("the seventh, out of turn", six.left(65), 0);
        Due.is("the seventh, in between", six.left(25), 0);
    }

    private static void promise17() {
        Due.sentence("`int listen()`: LISTEN; NONE. FULL: there are 7.");
        refused("listen() of seven", PromiseEdgesTest::full, x -> x.listen(), FULL);
        refused("listen() of none", PromiseEdgesTest::none, x -> x.listen(), NONE);
        refused("listen() of EMPTY", PromiseEdgesTest::empty, x -> x.listen(), NONE);
        PulseTurns x = Due.told("b10 10 2;t0;t10;t20;t30;t40;t50;");
        Due.is("listen() of six", x.listen(), 56);
        x.adds(56);
        Due.is("listen() of seven", x.listen(), FULL);
        Due.is("of seven, none stands", Due.told("t1;t2;t3;t4;t5;t6;t7;").listen(), FULL);
        Due.is("of six, none stands", Due.told("t1;t2;t3;t4;t5;t6;").listen(), NONE);
    }

    private static void promise18() {
        Due.sentence("`int odds(int x, int what)`: ODDS: upper (what = 0), lower number (1), in least terms. BAD.");
        for (String letters : TOLD) {
            PulseTurns p = Due.told(letters);
            for (int x : SOME) {
                for (int what : SOME) {
                    boolean fine = x >= 0 && x <= 10 && what >= 0 && what < 2;
                    String call = "odds(" + x + ", " + what + ") of " + letters;
                    Due.is(call + ": BAD", p.odds(x, what) == BAD ? 1 : 0, fine ? 0 : 1);
                }
            }
        }
        PulseTurns none = none();
        Due.is("0", none.odds(5, 0), 0);
        Due.is("by 1", none.odds(5, 1), 1);
        PulseTurns two = Due.told("t0;t150;");
        Due.is("3", two.odds(5, 0), 3);
        Due.is("by 4", two.odds(5, 1), 4);
        Due.is("all", two.odds(0, 0), 1);
        Due.is("by 1", two.odds(0, 1), 1);
        refusedAlways("odds(11, 0)", p -> p.odds(11, 0), BAD);
        refusedAlways("odds(-1, 0)", p -> p.odds(-1, 0), BAD);
        refusedAlways("odds(5, 2)", p -> p.odds(5, 2), BAD);
        // Each of the three alone, or the outer two, 100 apart: 4 of 8.
        refused("odds(5, 0) of EMPTY", PromiseEdgesTest::empty, p -> p.odds(5, 0), 1);
        refused("odds(5, 1) of EMPTY", PromiseEdgesTest::empty, p -> p.odds(5, 1), 2);
    }

    // ---- images

    private static void promise19() {
        Due.sentence("`int keep(int image)`: An IMAGE is kept: ARRIVALS. BAD.");
        int[] wrong = {Integer.MIN_VALUE, -1, 2, Integer.MAX_VALUE};
        for (int image : wrong) {
            refusedAlways("keep(" + image + ")", x -> x.keep(image), BAD);
        }
        Due.is("of none", none().keep(0), 0);
        Due.is("of seven", full().keep(1), 7);
        PulseTurns x = full();
        Due.is("over an old one", x.keep(0), 7);
        Due.is("the other is as it was", x.back(1), 6);
        Due.is("the new one", x.back(0), 7);
        Due.times("the new one", x, 0, 150, 300, 450, 600, 750, 2999);
    }

    private static void promise20() {
        Due.sentence("`int back(int image)`: All of that becomes as an IMAGE has it: ARRIVALS. BAD; STATE: none was"
            + " kept.");
        int[] wrong = {Integer.MIN_VALUE, -1, 2, Integer.MAX_VALUE};
        for (int image : wrong) {
            refusedAlways("back(" + image + ")", x -> x.back(image), BAD);
        }
        refused("back(0) of none", PromiseEdgesTest::none, x -> x.back(0), STATE);
        refused("back(1) of none", PromiseEdgesTest::none, x -> x.back(1), STATE);
        refused("back(0), though 1 is kept", PromiseEdgesTest::empty, x -> x.back(0), STATE);
        PulseTurns x = full();
        Due.is("back(0)", x.back(0), 5);
        Due.times("back(0)", x, 0, 150, 300, 450, 600);
        Due.state("back(0)", x, 5, 100, 200, 2, 0);
        Due.is("back(1)", x.back(1), 6);
        Due.times("back(1)", x, 0, 150, 300, 450, 600, 750);
        Due.state("back(1)", x, 6, 28, 208, 3, 0);
        x.strikes(0);
        Due.is("an image stays as it was kept", x.back(1), 6);
        Due.is("and once more", x.back(1), 6);
    }

    private static void promise21() {
        Due.sentence("0 ARRIVALS, 1 LOW, 2 HIGH, 3 SLACK, 4 STANDING, 5 CERTAIN (bits), 6 letters of THE TEXT, 7 how"
            + " many may be UNDONE. BAD.");
        int[][] want = {{0, 100, 200, 2, 0, 0, 0, 0}, {7, 100, 200, 2, 1, 127, 100, 10}, {3, 100, 200, 2, 0, 0, 6, 1}};
        for (int what = 0; what < 8; what++) {
            Due.is("count(" + what + ") of none", none().count(what), want[0][what]);
            Due.is("count(" + what + ") of all full", full().count(what), want[1][what]);
            Due.is("count(" + what + ") of EMPTY", empty().count(what), want[2][what]);
        }
        int[] wrong = {Integer.MIN_VALUE, -1, 8, Integer.MAX_VALUE};
        for (int what : wrong) {
            refusedAlways("count(" + what + ")", x -> x.count(what), BAD);
        }
    }

    public static void main(String[] args) {
        promise1();
        promise2();
        promise3();
        promise4();
        promise5();
        promise6();
        promise7();
        promise8();
        promise9();
        promise10();
        promise11();
        promise12();
        promise13();
        promise14();
        promise15();
        promise16();
        promise17();
        promise18();
        promise19();
        promise20();
        promise21();
        Due.end("PromiseEdgesTest");
    }
}
