import java.util.function.Supplier;

/**
 * The section 'Terms' of the document, sentence by sentence: each one that names a boundary has a test
 * of its own, with the last value that is allowed, the first that is not, none at all and all full.
 */
public final class TermsEdgesTest {
    private static final int BAD = Due.BAD, STATE = Due.STATE, FULL = Due.FULL, NONE = Due.NONE, NO = Due.NO;
    private static final int LEAST = Integer.MIN_VALUE, GREATEST = Integer.MAX_VALUE;
    private static final String SEVEN = "b10 10 2;t0;t10;t20;t30;t40;t50;t60;";
    private static final String SEVEN_BY_TWO = "t0;t450;t900;t1350;t1800;t2250;t2700;";
    private static final String FOUR_STAND = "b100 200 9;t0;t150;t2400;";
    private static final String NONE_STANDS = "t0;t50;t100;";

    // ---- 1: arrivals, the box, slack

    private static void sevenAtMost() {
        Due.sentence("ARRIVALS (7 at most)");
        PulseTurns x = new PulseTurns();
        Due.times("none", x);
        for (int k = 0; k < 7; k++) {
            Due.is("adds(" + 100 * k + ")", x.adds(100 * k), k);
        }
        Due.times("seven", x, 0, 100, 200, 300, 400, 500, 600);
        Due.is("an eighth", x.adds(700), FULL);
        Due.is("an eighth in between", x.adds(50), FULL);
        Due.times("still seven", x, 0, 100, 200, 300, 400, 500, 600);
        Due.is("one goes", x.strikes(0), 0);
        Due.is("one comes", x.adds(700), 6);
        Due.times("seven again", x, 100, 200, 300, 400, 500, 600, 700);
        Due.heard("t1;t2;t3;t4;t5;t6;t7;", 7);
        Due.heard("t1;t2;t3;t4;t5;t6;t7;t8;", -31);
    }

    private static void timesRange() {
        Due.sentence("each with a TIME (0 ..");
        PulseTurns x = new PulseTurns();
        Due.is("adds(-1)", x.adds(-1), BAD);
        Due.is("adds(least)", x.adds(LEAST), BAD);
        Due.is("adds(0)", x.adds(0), 0);
        Due.times("0", x, 0);
        Due.heard("t0;", 1);
        Due.sentence("2999, no two alike)");
        Due.is("adds(3000)", x.adds(3000), BAD);
        Due.is("adds(greatest)", x.adds(GREATEST), BAD);
        Due.is("adds(2999)", x.adds(2999), 1);
        Due.times("0 and 2999", x, 0, 2999);
        Due.heard("t2999;", 1);
        Due.heard("t3000;", -11);
        Due.is("adds(0) again", x.adds(0), STATE);
        Due.is("adds(2999) again", x.adds(2999), STATE);
        Due.is("adds(1)", x.adds(1), 1);
        Due.is("adds(2998)", x.adds(2998), 2);
        Due.heard("t5;t4;t6;", 3);
        Due.heard("t5;t5;", -14);
        Due.heard("t5;t4;t6;t5;", -20);
    }

    private static void numberedByTimes() {
        Due.sentence("numbered 0, 1, .. by TIMES");
        PulseTurns x = new PulseTurns();
        Due.is("the only one", x.adds(500), 0);
        Due.is("behind the last", x.adds(600), 1);
        Due.is("ahead of the first", x.adds(400), 0);
        Due.is("just ahead", x.adds(599), 2);
        Due.is("just behind", x.adds(501), 2);
        Due.times("by times", x, 400, 500, 501, 599, 600);
        x.strikes(1);
        Due.times("numbers close up", x, 400, 501, 599, 600);
        Due.times("told in another order", Due.told("t30;t2999;t0;t20;"), 0, 20, 30, 2999);
    }

    private static void boxRange() {
        Due.sentence("THE BOX: LOW, HIGH (10 .. 999");
        PulseTurns x = Due.told("t5;");
        int[][] fine = {{10, 10, 0}, {10, 999, 0}, {11, 998, 0}, {999, 999, 0}};
        for (int[] b : fine) {
            Due.is("boxes(" + b[0] + ", " + b[1] + ", 0)", x.boxes(b[0], b[1], b[2]), 1);
            Due.state("told", x, 1, b[0], b[1], 0);
        }
        int[][] refused = {{9, 9, 0}, {9, 10, 0}, {9, 999, 0}, {0, 10, 0}, {-10, 10, 0}, {LEAST, 10, 0},
            {999, 1000, 0}, {10, 1000, 0}, {1000, 1000, 0}, {10, GREATEST, 0}, {GREATEST, GREATEST, 0}};
        for (int[] b : refused) {
            Due.is("boxes(" + b[0] + ", " + b[1] + ", 0)", x.boxes(b[0], b[1], b[2]), BAD);
        }
        Due.state("as the last one told", x, 1, 999, 999, 0, 4);
        Due.heard("b10 10 0;", 1);
        Due.heard("b10 999 0;", 1);
        Due.heard("b999 999 0;", 1);
        Due.heard("b9 10 0;", -11);
        Due.heard("b0 10 0;", -11);
        Due.heard("b1000 1000 0;", -11);
        Due.heard("b999 1000 0;", -15);
        Due.heard("b10 9 0;", -14);
    }

    private static void lowAndHigh() {
        Due.sentence("LOW no more than HIGH");
        PulseTurns x = Due.told("t5;");
        Due.is("boxes(50, 50, 1)", x.boxes(50, 50, 1), 1);
        Due.is("boxes(50, 49, 1)", x.boxes(50, 49, 1), BAD);
        Due.is("boxes(50, 51, 1)", x.boxes(50, 51, 1), 1);
        Due.is("boxes(11, 10, 1)", x.boxes(11, 10, 1), BAD);
        Due.is("boxes(999, 998, 1)", x.boxes(999, 998, 1), BAD);
        Due.is("boxes(999, 10, 1)", x.boxes(999, 10, 1), BAD);
        Due.state("as the last one told", x, 1, 50, 51, 1, 2);
        Due.heard("b50 50 1;", 1);
        Due.heard("b50 49 1;", -14);
        Due.heard("b999 998 1;", -15);
    }

    private static void slackRange() {
        Due.sentence("SLACK (0 .. 99");
        PulseTurns x = Due.told("t5;");
        Due.is("slack 0", x.boxes(999, 999, 0), 1);
        Due.is("slack -1", x.boxes(999, 999, -1), BAD);
        Due.is("least slack", x.boxes(999, 999, LEAST), BAD);
        Due.is("slack 99", x.boxes(999, 999, 99), 1);
        Due.is("slack 100", x.boxes(999, 999, 100), BAD);
        Due.is("greatest slack", x.boxes(999, 999, GREATEST), BAD);
        Due.state("as the last one told", x, 1, 999, 999, 99, 2);
        Due.heard("b999 999 0;", 1);
        Due.heard("b999 999 99;", 1);
        Due.heard("b999 999 100;", -19);
    }

    private static void fourSlacks() {
        Due.sentence("4 times it less than LOW");
        PulseTurns x = Due.told("t5;");
        int[][] fine = {{10, 2}, {13, 3}, {101, 25}, {393, 98}, {397, 99}};
        for (int[] b : fine) {
            Due.is("boxes(" + b[0] + ", 999, " + b[1] + ")", x.boxes(b[0], 999, b[1]), 1);
        }
        // Four times 1 << 30 is 0, four times 1 << 29 is below 0, if they wrap around.
        int[][] refused = {{10, 3}, {12, 3}, {100, 25}, {392, 98}, {396, 99}, {10, 1 << 30}, {10, 1 << 29}};
        for (int[] b : refused) {
            Due.is("boxes(" + b[0] + ", 999, " + b[1] + ")", x.boxes(b[0], 999, b[1]), BAD);
        }
        Due.state("as the last one told", x, 1, 397, 999, 99, 5);
        Due.heard("b13 99 3;", 1);
        Due.heard("b12 99 3;", -17);
        Due.heard("b397 999 99;", 1);
        Due.heard("b396 999 99;", -19);
    }

    private static void atFirst() {
        Due.sentence("100, 200 at first");
        PulseTurns x = new PulseTurns();
        Due.state("new", x, 0, 100, 200);
        x.boxes(20, 30, 4);
        Due.is("heard() of no letters", x.heard(), 0);
        Due.state("told anew without b", x, 0, 100, 200);
        Due.sentence("2 at first");
        Due.is("slack, told anew", x.count(3), 2);
        Due.is("slack, new", new PulseTurns().count(3), 2);
    }

    // ---- 1: the text

    private static PulseTurns fullText(String letters) {
        PulseTurns x = new PulseTurns();
        Due.types(x, letters);
        for (int n = letters.length(); n < 100; n++) {
            x.type(' ');
        }
        return x;
    }

    private static void hundredLetters() {
        Due.sentence("a text (100 letters at most)");
        PulseTurns x = new PulseTurns();
        Due.is("no letters", x.count(6), 0);
        for (int n = 1; n <= 100; n++) {
            Due.is("letter " + n, x.type(' '), n);
        }
        Due.is("letter 101", x.type(' '), FULL);
        Due.is("letter 101, a ;", x.type(';'), FULL);
        Due.is("letters", x.count(6), 100);
        Due.is("the letter too many is not there", x.heard(), 0);
        Due.is("the first letter behind", x.type('t'), 1);
        Due.is("an item and 97 blanks", fullText("t5;").heard(), 1);
        Due.is("97 blanks and an item", fullText(" ".repeat(97) + "t5;").heard(), 1);
        Due.is("it ends too early", fullText("t5").heard(), -110);
        Due.is("the last letter is the fault", fullText(" ".repeat(99) + ";").heard(), -109);
        Due.is("the last letter wants more", fullText(" ".repeat(99) + "t").heard(), -110);
        Due.is("the last letter is a number's", fullText("t" + " ".repeat(98) + "5").heard(), -110);
        Due.is("the last letter is a number's, the fault", fullText(" ".repeat(99) + "5").heard(), -109);
    }

    private static void blanks() {
        Due.sentence("blanks (32) between TOKENS");
        Due.heard("", 0);
        Due.heard(" ", 0);
        Due.heard("  b  10  20  2  ;  t  5  ;  ", 2);
        Due.heard("b10 20 2;t5;", 2);
        Due.heard("t1 2;", -13);
        Due.heard("b1020 2;", -11);
        int[] noBlanks = {0, 9, 10, 13, 31, 33, 160, 255};
        for (int letter : noBlanks) {
            Due.heard("t5;" + (char) letter, -13);
            Due.heard("t" + (char) letter + "5;", -11);
            Due.heard("t5" + (char) letter + ";", -12);
        }
    }

    private static void items() {
        Due.sentence("ITEMS, each ended by ; : b L H S (THE BOX, SLACK; once at most) ; t N (an ARRIVAL).");
        Due.heard("t5;", 1);
        Due.heard("b10 20 2;", 1);
        Due.heard("t5;b10 20 2;t6;", 3);
        Due.heard("b10 20 2;t1;t2;t3;t4;t5;t6;t7;", 8);
        Due.heard("t1;t2;t3;t4;t5;t6;t7;b10 20 2;", 8);
        Due.heard(";", -10);
        Due.heard("t5;;", -13);
        Due.heard("5;", -10);
        Due.heard("t;", -11);
        Due.heard("b;", -11);
        Due.heard("b10;", -13);
        Due.heard("b10 20;", -16);
        Due.heard("b10 20 2 2;", -19);
        Due.heard("t5 6;", -13);
        Due.heard("t5t6;", -12);
        Due.heard("t5 b10 20 2;", -13);
        Due.heard("tt5;", -11);
        Due.heard("bt5;", -11);
    }

    private static void firstFault() {
        Due.sentence("FAULT: the place of the first letter of the first TOKEN that can't stand there");
        Due.heard(";x", -10);
        Due.heard("t5;;x;", -13);
        Due.heard("  t3000;;", -13);
        Due.heard("t5;t5;t00;", -14);
        Due.heard("t5 123 x", -13);
        Due.heard("t t x", -12);
        Due.sentence("(b again, an eighth t, a TIME told already, a NUMBER beyond what it may be, too)");
        Due.heard("b10 20 2;b10 20 2;", -19);
        Due.heard("b10 20 2;t5; b", -23);
        Due.heard("t1;t2;t3;t4;t5;t6;t7; t8;", -32);
        Due.heard("t1;t2;t3;t4;t5;t6;t7;t", -31);
        Due.heard("t7;t 7;", -15);
        Due.heard("t 3000;", -12);
        Due.heard("b 9 20 2;", -12);
        Due.heard("b10  9 2;", -15);
        Due.heard("b10 20  3;", -18);
    }

    private static void otherTokens() {
        Due.sentence("of any other letter, a NUMBER above 9999 or with a 0 ahead of others, that TOKEN's");
        // The neighbours of 0, 9, ;, b, t, and signs that look alike.
        int[] others = {'/', ':', '<', 'a', 'c', 's', 'u', 'B', 'T', '-', '+', '.', 0, 255, 'b' + 128};
        for (int other : others) {
            Due.heard("t5; " + (char) other + "t6;", -14);
            Due.heard("t5;t " + (char) other + "6;", -15);
            Due.heard("t5;t6 " + (char) other + ";", -16);
        }
        Due.heard("t9999;", -11);
        Due.heard("t10000;", -11);
        // As they would be 5, 5 and 0, if they wrapped around.
        Due.heard("t4294967301;", -11);
        Due.heard("t18446744073709551621;", -11);
        Due.heard("t" + "4294967296".repeat(9) + ";", -11);
        Due.heard("t5;10000", -13);
        Due.heard("t0;", 1);
        Due.heard("t00;", -11);
        Due.heard("t 05;", -12);
        Due.heard("b010 20 2;", -11);
        Due.heard("b10 020 2;", -14);
        Due.heard("b10 20 02;", -17);
        Due.heard("b10 20 0;", 1);
        Due.heard("t100;t2000;", 2);
    }

    private static void endsTooEarly() {
        Due.sentence("the text's length, if it ends too early");
        String[] cutOff = {"t", "t5", "t 5 ", "t5;t", "b", "b ", "b10", "b10 ", "b10 20", "b10 20 ",
            "b10 20 2", "b10 20 2  ", "t5;b10 20 2;t6", "   t"};
        for (String letters : cutOff) {
            Due.heard(letters, -10 - letters.length());
        }
    }

    // ---- 2: numberings

    private static void standing(String letters, int want) {
        Due.is("STANDING of " + letters, Due.told(letters).count(4), want);
    }

    private static void greaterNumbers() {
        Due.sentence("A NUMBERING gives ARRIVAL 0 the number 0, each other one a greater number than the one"
            + " ahead has.");
        PulseTurns x = Due.told("t30;t480;");
        Due.is("number(0, 0)", x.number(0, 0), 0);
        Due.is("number(1, 0)", x.number(1, 0), 0);
        // No turn would bear these out, were it allowed.
        standing("t0;t1;", 0);
        standing("t0;t4;", 0);
        standing("b397 397 99;t0;t198;", 0);
        standing("b397 397 99;t0;t199;", 1);
        standing("t0;t150;t151;", 0);
    }

    private static void periodsInTheBox() {
        Due.sentence("if there is a PERIOD (any fraction) from LOW to HIGH so that");
        standing("b33 34 0;t0;t100;", 1);
        standing("b33 33 0;t0;t100;", 0);
        standing("b34 34 0;t0;t100;", 0);
        standing("b100 150 0;t0;t99;", 0);
        standing("b100 150 0;t0;t100;", 1);
        standing("b100 150 0;t0;t150;", 1);
        standing("b100 150 0;t0;t151;", 0);
        standing("b100 150 0;t0;t199;", 0);
        standing("b100 150 0;t0;t200;", 1);
        standing("b100 150 0;t0;t300;", 2);
        standing("b100 150 0;t0;t301;", 1);
    }

    private static void twiceSlack() {
        Due.sentence("of each two ARRIVALS, what their TIMES are apart and what their numbers are apart times"
            + " the PERIOD differ by no more than twice SLACK.");
        standing("b100 100 2;t0;t95;", 0);
        standing("b100 100 2;t0;t96;", 1);
        standing("b100 100 2;t0;t104;", 1);
        standing("b100 100 2;t0;t105;", 0);
        standing("b100 100 0;t0;t99;", 0);
        standing("b100 100 0;t0;t100;", 1);
        standing("b100 100 0;t0;t101;", 0);
        // Arrivals 1 and 2, each of them well apart from arrival 0.
        standing("b100 100 2;t0;t104;t200;", 1);
        standing("b100 100 2;t0;t104;t199;", 0);
        standing("b100 100 2;t0;t96;t200;", 1);
        standing("b100 100 2;t0;t96;t201;", 0);
        // Three turns, or four, of 446 by 3, or by 4: then arrivals 0 and 1 just fit, and so do 1 and 2.
        standing("t0;t450;t892;", 2);
        standing("t0;t450;t891;", 0);
    }

    private static void box(String letters, int k, int... want) {
        for (int what = 0; what < 4; what++) {
            String call = "box(" + k + ", " + what + ") of " + letters;
            Due.is(call, Due.told(letters).box(k, what), want[what]);
        }
    }

    private static void boxOfNumbering() {
        Due.sentence("Its BOX: from the least such PERIOD to the greatest.");
        box("t0;t150;", 0, 146, 1, 154, 1);
        box("t0;t198;", 0, 194, 1, 200, 1);
        box("t0;t102;", 0, 100, 1, 106, 1);
        box("t0;t96;", 0, 100, 1, 100, 1);
        box("t0;t196;t296;", 0, 100, 1, 100, 1);
        box("b33 34 0;t0;t100;", 0, 100, 3, 100, 3);
        box("b20 30 1;t7;", 0, 20, 1, 30, 1);
        box("b20 30 1;", 0, NONE, NONE, NONE, NONE);
    }

    private static void inOrder() {
        Due.sentence("NUMBERINGS that STAND are in order by the number of ARRIVAL 1, then 2 .. .");
        PulseTurns one = Due.told("t0;t900;");
        for (int k = 0; k < 5; k++) {
            Due.is("number(" + k + ", 1)", one.number(k, 1), 5 + k);
        }
        Due.is("number(5, 1)", one.number(5, 1), NONE);
        PulseTurns two = Due.told(FOUR_STAND);
        for (int k = 0; k < 4; k++) {
            Due.is("number(" + k + ", 1)", two.number(k, 1), 1);
            Due.is("number(" + k + ", 2)", two.number(k, 2), 15 + k);
        }
        Due.is("number(4, 2)", two.number(4, 2), NONE);
    }

    private static void counts(String letters, int i, int j, int... want) {
        for (int what = 0; what < 3; what++) {
            String call = "counts(" + i + ", " + j + ", 0, " + what + ") of " + letters;
            Due.is(call, Due.told(letters).counts(i, j, 0, what), want[what]);
        }
    }

    private static void countsOfTwo() {
        Due.sentence("COUNTS of two ARRIVALS i, j (i less than j) by a BOX: the whole numbers, j less i or more");
        counts("t0;t100;t200;", 0, 2, 1, 2, 2);
        counts("t0;t50;t100;", 0, 2, 0, NONE, NONE);
        counts("t0;t1;t2;t3;t4;t5;t602;", 0, 6, 1, 6, 6);
        counts("t0;t1;t2;t3;t4;t5;t595;", 0, 6, 0, NONE, NONE);
        counts("t0;t3;", 0, 1, 0, NONE, NONE);
        Due.sentence("for which some PERIOD of that BOX times the number differs by no more than twice SLACK from"
            + " what their TIMES are apart.");
        counts("t0;t996;", 0, 1, 6, 5, 10);
        counts("t0;t995;", 0, 1, 5, 5, 9);
        counts("t0;t1004;", 0, 1, 6, 5, 10);
        counts("t0;t1005;", 0, 1, 5, 6, 10);
        counts("t0;t95;", 0, 1, 0, NONE, NONE);
        counts("t0;t96;", 0, 1, 1, 1, 1);
        counts("b150 200 2;t0;t204;", 0, 1, 1, 1, 1);
        counts("b150 200 2;t0;t205;", 0, 1, 0, NONE, NONE);
        counts("b10 999 0;t0;t2999;", 0, 1, 296, 4, 299);
        counts("b10 999 2;t0;t2999;", 0, 1, 298, 3, 300);
    }

    private static void narrowed(String letters, int... want) {
        PulseTurns x = Due.told(letters);
        for (int what = 0; what < 4; what++) {
            Due.is("narrowed(" + what + ") of " + letters, x.narrowed(what), want[what]);
        }
    }

    private static void narrowing() {
        Due.sentence("NARROWED: THE BOX, cut again and again by each two ARRIVALS that have just one COUNT by what"
            + " is left (PERIODS by which that one does not fit go), till nothing changes");
        narrowed("", 100, 1, 200, 1);
        narrowed("t5;", 100, 1, 200, 1);
        narrowed("t0;t450;", 100, 1, 200, 1);
        narrowed("t0;t198;", 100, 1, 200, 1);
        narrowed("b101 200 2;t0;t197;", 193, 1, 200, 1);
        narrowed("t0;t150;", 146, 1, 154, 1);
        narrowed("t0;t150;t1050;", 1046, 7, 1054, 7);
        // What the last two cut leaves the first two one count.
        narrowed("t0;t900;t1050;", 1046, 7, 1054, 7);
        // The last two cut at LOW's end alone, then at HIGH's alone.
        narrowed("b110 200 2;t0;t980;t1178;", 587, 3, 984, 5);
        narrowed("b110 200 2;t0;t565;t677;", 561, 5, 227, 2);
        Due.sentence("EMPTY, if nothing is left, or two have no COUNT.");
        narrowed("t0;t96;", 100, 1, 100, 1);
        narrowed("t0;t95;", NONE, NONE, NONE, NONE);
        narrowed("b150 200 2;t0;t204;", 200, 1, 200, 1);
        narrowed("b150 200 2;t0;t205;", NONE, NONE, NONE, NONE);
        narrowed("t0;t146;t300;", 150, 1, 150, 1);
        narrowed("t0;t145;t300;", NONE, NONE, NONE, NONE);
        narrowed("t0;t110;t250;", NONE, NONE, NONE, NONE);
        narrowed(NONE_STANDS, NONE, NONE, NONE, NONE);
    }

    // ---- 2: what is undone

    /** The n-th of changes of all three kinds, in turn. */
    private static void change(PulseTurns x, int n) {
        if (n % 3 == 0) {
            x.adds(10 * n);
        } else if (n % 3 == 1) {
            x.boxes(20 + n, 500 + n, n % 6);
        } else {
            x.strikes(0);
        }
    }

    private static PulseTurns changed(int many) {
        PulseTurns x = Due.told("t1;t2;");
        for (int n = 0; n < many; n++) {
            change(x, n);
        }
        return x;
    }

    private static void sameHearing(String where, PulseTurns x, PulseTurns as) {
        for (int what = 0; what < 6; what++) {
            Due.is(where + ": count(" + what + ")", x.count(what), as.count(what));
        }
        for (int k = 0; k < 7; k++) {
            Due.is(where + ": time(" + k + ")", x.time(k), as.time(k));
        }
    }

    private static void undone() {
        Due.sentence("UNDONE: the latest adds(), strikes(), boxes() that was not refused");
        for (int many = 0; many <= 10; many++) {
            PulseTurns x = changed(many);
            for (int more = many - 1; more >= 0; more--) {
                Due.is("undo() of " + many, x.undo(), more);
                sameHearing(more + " of " + many + " left", x, changed(more));
            }
            Due.is("undo() of none", x.undo(), STATE);
            sameHearing("none left", x, changed(0));
        }
        PulseTurns x = Due.told("t1;");
        x.adds(7);
        int[] refused = {x.adds(7), x.adds(3000), x.strikes(2), x.boxes(9, 9, 0), x.type(-1), x.back(0)};
        Due.is("a refused call", refused[0], STATE);
        Due.is("what may be undone", x.count(7), 1);
        Due.is("undo() is of the one that was not refused", x.undo(), 0);
        Due.times("undone", x, 1);
        Due.is("undo() itself is not undone", x.undo(), STATE);
    }

    private static void tenAreKnown() {
        Due.sentence("(10 are known, older ones are lost)");
        for (int many = 10; many <= 31; many++) {
            PulseTurns x = changed(many);
            Due.is("what may be undone of " + many, x.count(7), 10);
            for (int more = 9; more >= 0; more--) {
                Due.is("undo() of " + many, x.undo(), more);
            }
            sameHearing("ten undone of " + many, x, changed(many - 10));
            Due.is("an eleventh of " + many, x.undo(), STATE);
            sameHearing("an eleventh changes nothing", x, changed(many - 10));
        }
        PulseTurns x = changed(13);
        for (int n = 0; n < 5; n++) {
            x.undo();
        }
        for (int n = 8; n < 15; n++) {
            change(x, n);
        }
        Due.is("five undone, seven more", x.count(7), 10);
        for (int more = 9; more >= 0; more--) {
            Due.is("undo()", x.undo(), more);
            sameHearing(more + " left", x, changed(5 + more));
        }
    }

    // ---- 3: as things are now

    private static void standingOfFew() {
        Due.sentence("STANDING: how many NUMBERINGS STAND (1 with one ARRIVAL, 0 with none).");
        PulseTurns x = new PulseTurns();
        Due.is("none", x.count(4), 0);
        Due.is("none, by another box", x.boxes(10, 10, 0), 0);
        Due.is("one would be", x.left(0), 1);
        x.adds(2999);
        Due.is("one", x.count(4), 1);
        Due.is("one, by another box", x.boxes(999, 999, 99), 1);
        x.strikes(0);
        Due.is("none again", x.count(4), 0);
        standing("t0;t450;", 2);
        standing("t0;t95;", 0);
        standing(SEVEN, 1);
        standing(SEVEN_BY_TWO, 2);
        standing("b10 999 0;t0;t2999;", 296);
    }

    private static void certain() {
        Due.sentence("CERTAIN: ARRIVALS (bits) that have the same number in all that STAND (0: none STANDS).");
        String[] told = {"", "t5;", "t0;t150;", "t0;t450;", "t0;t95;", NONE_STANDS, SEVEN,
            "t0;t150;t300;", "t0;t450;t900;", FOUR_STAND, SEVEN_BY_TWO};
        int[] want = {0, 1, 3, 1, 0, 0, 127, 7, 1, 3, 1};
        for (int i = 0; i < told.length; i++) {
            Due.is("CERTAIN of " + told[i], Due.told(told[i]).count(5), want[i]);
        }
    }

    private static void held() {
        Due.sentence("HELD of a gap k (from ARRIVAL k to the next one): COUNTS that it has in any NUMBERING that"
            + " STANDS: how many, the least, the greatest.");
        String[] told = {"t0;t450;", "t0;t95;", "t0;t150;", "b20 60 0;t0;t60;t180;", "b20 60 0;t0;t60;t180;",
            "b10 999 0;t0;t2999;", SEVEN, FOUR_STAND, FOUR_STAND};
        int[] gap = {0, 0, 0, 0, 1, 0, 5, 0, 1};
        int[][] want = {{2, 3, 4}, {0, NONE, NONE}, {1, 1, 1}, {3, 1, 3}, {3, 2, 6}, {296, 4, 299}, {1, 1, 1},
            {1, 1, 1}, {4, 14, 17}};
        for (int i = 0; i < told.length; i++) {
            for (int what = 0; what < 3; what++) {
                String call = "held(" + gap[i] + ", " + what + ") of " + told[i];
                Due.is(call, Due.told(told[i]).held(gap[i], what), want[i][what]);
            }
        }
        PulseTurns two = Due.told("t0;t150;");
        Due.is("a gap behind the last arrival", two.held(1, 0), BAD);
        Due.is("a gap behind the seventh", Due.told(SEVEN).held(6, 0), BAD);
        Due.is("no gap at one arrival", Due.told("t5;").held(0, 0), BAD);
    }

    private static void bend(String letters, int upper, int lower) {
        PulseTurns x = Due.told(letters);
        Due.is("bend(0, 1, 2, 0) of " + letters, x.bend(0, 1, 2, 0), upper);
        Due.is("bend(0, 1, 2, 1) of " + letters, x.bend(0, 1, 2, 1), lower);
    }

    private static void bends() {
        Due.sentence("BEND of three ARRIVALS i, j, k (i, j, k rising) by the first NUMBERING");
        // Numbers 3, 6 come ahead of 4, 8, by which it would be -1 by 4.
        bend("t0;t450;t899;", -1, 3);
        PulseTurns x = Due.told("t0;t150;t303;t450;");
        Due.is("bend(1, 2, 3, 0)", x.bend(1, 2, 3, 0), -6);
        Due.is("bend(1, 2, 4, 0)", x.bend(1, 2, 4, 0), NO);
        Due.is("bend(-1, 0, 1, 0)", x.bend(-1, 0, 1, 0), NO);
        Due.is("bend(0, 0, 1, 0)", x.bend(0, 0, 1, 0), NO);
        Due.is("bend(0, 1, 1, 0)", x.bend(0, 1, 1, 0), NO);
        Due.is("bend(2, 1, 3, 0)", x.bend(2, 1, 3, 0), NO);
        Due.is("of two arrivals", Due.told("t0;t150;").bend(0, 1, 2, 0), NO);
        Due.is("of the last three of seven", Due.told(SEVEN).bend(4, 5, 6, 1), 1);
        Due.sentence("the period of the second span less that of the first (TIMES apart by numbers apart): a"
            + " fraction, below 0, too.");
        bend("t0;t150;t301;", 1, 1);
        bend("t0;t150;t300;", 0, 1);
        bend("t0;t150;t299;", -1, 1);
        bend("t0;t150;t451;", 1, 2);
        bend("t0;t150;t599;", -1, 3);
        bend("b999 999 99;t0;t1098;t1998;", -198, 1);
        bend("b999 999 99;t0;t900;t1998;", 198, 1);
    }

    private static void left() {
        Due.sentence("LEFT of a TIME (0 .. 2999, no ARRIVAL): how many NUMBERINGS would STAND, were it ADDED.");
        PulseTurns none = new PulseTurns();
        Due.is("left(-1)", none.left(-1), BAD);
        Due.is("left(0)", none.left(0), 1);
        Due.is("left(2999)", none.left(2999), 1);
        Due.is("left(3000)", none.left(3000), BAD);
        PulseTurns x = Due.told("t150;t600;");
        Due.is("left(149) ", x.left(149), 0);
        Due.is("left(150)", x.left(150), STATE);
        Due.is("left(151)", x.left(151), 0);
        Due.is("left(600)", x.left(600), STATE);
        Due.is("one ahead", x.left(0), 1);
        Due.is("one in between", x.left(300), 1);
        Due.is("one behind", x.left(1050), 2);
        Due.times("it is not there then", x, 150, 600);
    }

    private static void listen(String letters, int want) {
        Due.is("listen() of " + letters, Due.told(letters).listen(), want);
    }

    private static void listens() {
        Due.sentence("LISTEN: of the 100 TIMES behind the last ARRIVAL (up to 2999)");
        listen("b100 200 0;t50;", 150);
        listen("b101 200 0;t50;", NONE);
        listen("b50 60 0;t2949;", 2999);
        listen("b50 60 0;t2950;", NONE);
        listen("b100 200 0;t2899;", 2999);
        listen("b100 200 0;t2900;", NONE);
        listen("b10 60 0;t2989;", 2999);
        listen("b10 60 0;t2998;", NONE);
        listen("b10 60 0;t2999;", NONE);
        // One turn, heard 4 too early at the most.
        listen("b10 10 2;t0;", 6);
        listen("b10 10 2;t0;t10;t20;t30;t40;t50;", 56);
        // Arrival 1 came late by 4: what fits arrival 0 from 196 on, fits it from 200 on.
        listen("b100 100 2;t0;t104;", 200);
        Due.sentence("the one by which fewest, but some, would STAND, of several the first; NONE (there is none"
            + " such).");
        listen("b50 100 0;t0;", 50);
        PulseTurns x = Due.told("b10 25 0;t0;t189;");
        Due.is("none at", x.left(190), 0);
        Due.is("some, but more, at an earlier time", x.left(210), 2);
        Due.is("fewest at", x.left(216), 1);
        Due.is("listen()", x.listen(), 216);
        listen("", NONE);
        listen("t0;t95;", NONE);
        listen(NONE_STANDS, NONE);
        listen("t0;t150;t300;", NONE);
        PulseTurns again = Due.told("b50 60 0;t0;");
        Due.is("listen()", again.listen(), 50);
        again.boxes(70, 80, 0);
        Due.is("listen() by another box", again.listen(), 70);
        again.boxes(200, 300, 0);
        Due.is("listen() by a box too far", again.listen(), NONE);
    }

    private static void odds(String letters, int x, int upper, int lower) {
        PulseTurns p = Due.told(letters);
        Due.is("odds(" + x + ", 0) of " + letters, p.odds(x, 0), upper);
        Due.is("odds(" + x + ", 1) of " + letters, p.odds(x, 1), lower);
    }

    private static void oddsOfAll() {
        Due.sentence("ODDS by x (0 .. 10): each ARRIVAL is lost by x of 10, for itself: that just one NUMBERING of"
            + " what is left STANDS: a fraction.");
        for (int x = 0; x <= 10; x++) {
            odds("", x, 0, 1);
        }
        odds("", -1, BAD, BAD);
        odds("", 11, BAD, BAD);
        odds("t5;", 0, 1, 1);
        odds("t5;", 1, 9, 10);
        odds("t5;", 5, 1, 2);
        odds("t5;", 9, 1, 10);
        odds("t5;", 10, 0, 1);
        odds("t5;", -1, BAD, BAD);
        odds("t5;", 11, BAD, BAD);
        // Two stand with both, one with either of them, none with neither.
        odds("t0;t450;", 0, 0, 1);
        odds("t0;t450;", 1, 9, 50);
        odds("t0;t450;", 3, 21, 50);
        odds("t0;t450;", 10, 0, 1);
        odds(SEVEN, 0, 1, 1);
        odds(SEVEN, 1, 9999999, 10000000);
        odds(SEVEN, 9, 5217031, 10000000);
        odds(SEVEN, 10, 0, 1);
    }

    private static void imagesKeep() {
        Due.sentence("IMAGES 0, 1 keep ARRIVALS, THE BOX, SLACK; nothing else");
        PulseTurns x = Due.told("t1;t2;b20 30 4;");
        Due.is("keep(-1)", x.keep(-1), BAD);
        Due.is("keep(2)", x.keep(2), BAD);
        Due.is("keep(0)", x.keep(0), 2);
        Due.is("back(1) of none", x.back(1), STATE);
        x.adds(3);
        x.boxes(40, 50, 9);
        Due.is("keep(1)", x.keep(1), 3);
        x.strikes(0);
        Due.types(x, "t9;");
        Due.is("back(0)", x.back(0), 2);
        Due.times("back(0)", x, 1, 2);
        Due.state("back(0)", x, 2, 20, 30, 4);
        Due.is("letters behind back(0)", x.count(6), 3);
        Due.is("back(1)", x.back(1), 3);
        Due.times("back(1)", x, 1, 2, 3);
        Due.state("back(1)", x, 3, 40, 50, 9);
        Due.is("letters behind back(1)", x.count(6), 3);
        Due.is("the letters are still the same", x.heard(), 1);
        Due.times("heard", x, 9);
        PulseTurns none = new PulseTurns();
        Due.is("an image of none", none.keep(1), 0);
        none.adds(5);
        Due.is("back to none", none.back(1), 0);
        Due.times("none", none);
    }

    private static void behindBack() {
        Due.sentence("(nothing can be UNDONE behind back())");
        PulseTurns x = changed(12);
        x.keep(0);
        Due.is("keep() changes nothing there", x.count(7), 10);
        x.back(0);
        Due.is("what may be undone", x.count(7), 0);
        Due.is("undo()", x.undo(), STATE);
        sameHearing("undo() changes nothing", x, changed(12));
        change(x, 12);
        Due.is("a change behind", x.undo(), 0);
        Due.is("and no more", x.undo(), STATE);
        sameHearing("as the image has it", x, changed(12));
    }

    private static void readAnew() {
        Due.sentence("(Read anew: as told, nothing can be UNDONE, IMAGES are gone.)");
        PulseTurns x = changed(12);
        x.keep(0);
        x.keep(1);
        Due.types(x, "b20 30 4;t8;");
        Due.is("heard()", x.heard(), 2);
        Due.times("as told", x, 8);
        Due.state("as told", x, 1, 20, 30, 4, 0);
        Due.is("undo()", x.undo(), STATE);
        Due.is("back(0)", x.back(0), STATE);
        Due.is("back(1)", x.back(1), STATE);
        x.keep(1);
        Due.is("heard() of nothing", x.heard(), 0);
        Due.times("nothing told", x);
        Due.state("nothing told", x, 0, 100, 200, 2, 0);
        Due.is("back(1), nothing told", x.back(1), STATE);
    }

    // ---- refused

    private static void nowAlone() {
        Due.sentence("(As things are NOW; nothing is changed.)");
        String[] told = {"", "t5;", "t0;t450;", NONE_STANDS, "t0;t150;t1050;t1200;t1350;t1500;"};
        int[] lefts = {1, 4, 2, 0, 1};
        int[] listens = {NONE, 101, NONE, NONE, NONE};
        for (int i = 0; i < told.length; i++) {
            String letters = told[i];
            Supplier<PulseTurns> made = () -> withAll(letters);
            Due.changesNothing("left(900) of " + letters, made, x -> x.left(900), lefts[i]);
            Due.changesNothing("listen() of " + letters, made, x -> x.listen(), listens[i]);
            Due.changesNothing("odds(10, 0) of " + letters, made, x -> x.odds(10, 0), 0);
            Due.changesNothing("CERTAIN and others of " + letters, made, x -> asksAll(x), 0);
        }
    }

    /** As told, with something to be undone, both images and letters of a text. */
    private static PulseTurns withAll(String letters) {
        PulseTurns x = Due.told(letters);
        x.keep(0);
        x.adds(2990);
        x.keep(1);
        x.strikes(x.count(0) - 1);
        Due.types(x, "t1;t");
        return x;
    }

    private static int asksAll(PulseTurns x) {
        for (int k = 0; k < 4; k++) {
            x.count(k + 4);
            x.narrowed(k);
            x.counts(0, 1, 1, k);
            x.number(k, 0);
            x.box(k, 0);
            x.held(0, k);
            x.bend(0, 1, 2, k);
            x.odds(5, k);
            x.time(k);
        }
        return 0;
    }

    private static void order() {
        Due.sentence("Refused, and nothing changes, the first of these: BAD (a number is not as told, or there is no"
            + " such thing), STATE (as told), FULL.");
        PulseTurns full = Due.told("t0;t10;t20;t30;t40;t50;t60;");
        Due.is("adds: BAD, though FULL", full.adds(3000), BAD);
        Due.is("adds: STATE, though FULL", full.adds(60), STATE);
        Due.is("adds: FULL", full.adds(61), FULL);
        Due.is("left: BAD, though FULL", full.left(-1), BAD);
        Due.is("left: STATE, though FULL", full.left(0), STATE);
        Due.is("left: FULL", full.left(1), FULL);
        PulseTurns letters = fullText("");
        Due.is("type: BAD, though FULL", letters.type(256), BAD);
        Due.is("type: FULL", letters.type(255), FULL);
        PulseTurns empty = Due.told(NONE_STANDS);
        Due.is("counts: BAD, though STATE", empty.counts(0, 1, 1, 3), BAD);
        Due.is("counts: BAD, though STATE", empty.counts(1, 1, 1, 0), BAD);
        Due.is("counts: STATE", empty.counts(0, 1, 1, 0), STATE);
        Due.is("counts by THE BOX: none", empty.counts(0, 1, 0, 1), NONE);
        Due.is("back: BAD, though none was kept", empty.back(2), BAD);
        Due.is("back: STATE", empty.back(1), STATE);
        Due.is("number: BAD, though not so many", empty.number(0, 3), BAD);
        Due.is("box: BAD, though not so many", empty.box(0, 4), BAD);
        Due.is("held: BAD, though none stands", empty.held(2, 1), BAD);
        Due.is("narrowed: BAD, though EMPTY", empty.narrowed(4), BAD);
        Due.sentence("`NO = -1000000`: What is BAD, or none, where a number may be below 0.");
        Due.is("bend: what is BAD", full.bend(0, 1, 2, 2), NO);
        Due.is("bend: none stands", empty.bend(0, 1, 2, 0), NO);
        Due.is("NO", PulseTurns.NO, -1000000);
        Due.sentence("public static final int BAD = -1, STATE = -2, FULL = -3, NONE = -9;");
        Due.is("BAD", PulseTurns.BAD, -1);
        Due.is("STATE", PulseTurns.STATE, -2);
        Due.is("FULL", PulseTurns.FULL, -3);
        Due.is("NONE", PulseTurns.NONE, -9);
    }

    private static void manyCalls() {
        Due.sentence("An object is used for at most 512 calls after it has been made");
        PulseTurns x = new PulseTurns();
        for (int n = 0; n < 255; n++) {
            Due.is("adds", x.adds(n), 0);
            Due.is("strikes", x.strikes(0), n);
        }
        Due.is("call 511", x.adds(2999), 0);
        Due.is("call 512", x.undo(), 9);
    }

    public static void main(String[] args) {
        sevenAtMost();
        timesRange();
        numberedByTimes();
        boxRange();
        lowAndHigh();
        slackRange();
        fourSlacks();
        atFirst();
        hundredLetters();
        blanks();
        items();
        firstFault();
        otherTokens();
        endsTooEarly();
        greaterNumbers();
        periodsInTheBox();
        twiceSlack();
        boxOfNumbering();
        inOrder();
        countsOfTwo();
        narrowing();
        undone();
        tenAreKnown();
        standingOfFew();
        certain();
        held();
        bends();
        left();
        listens();
        oddsOfAll();
        imagesKeep();
        behindBack();
        readAnew();
        nowAlone();
        order();
        manyCalls();
        Due.end("TermsEdgesTest");
    }
}
