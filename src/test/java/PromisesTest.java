/** Runs worked out by hand, promise by promise: ordinary inputs, edges and wrong inputs. */
public final class PromisesTest {
    private static final int BAD = Due.BAD, STATE = Due.STATE, FULL = Due.FULL, NONE = Due.NONE, NO = Due.NO;

    private static void promise1() {
        PulseTurns x = new PulseTurns();
        int[] want = {0, 100, 200, 2, 0, 0, 0, 0};
        for (int what = 0; what < want.length; what++) {
            Due.is("1: count(" + what + ")", x.count(what), want[what]);
        }
        Due.is("1: undo", x.undo(), STATE);
        Due.is("1: back(0)", x.back(0), STATE);
        Due.is("1: back(1)", x.back(1), STATE);
        Due.is("1: time(0)", x.time(0), BAD);
        x.adds(5);
        Due.is("1: another object", new PulseTurns().count(0), 0);
    }

    private static void promise2() {
        PulseTurns x = new PulseTurns();
        Due.is("2: type(0)", x.type(0), 1);
        Due.is("2: type(255)", x.type(255), 2);
        Due.is("2: type(256)", x.type(256), BAD);
        Due.is("2: type(-1)", x.type(-1), BAD);
        Due.is("2: type(least)", x.type(Integer.MIN_VALUE), BAD);
        Due.is("2: count(6)", x.count(6), 2);
        for (int n = 3; n <= 100; n++) {
            Due.is("2: letter " + n, x.type(' '), n);
        }
        Due.is("2: letter 101", x.type(' '), FULL);
        Due.is("2: BAD ahead of FULL", x.type(256), BAD);
        Due.is("2: count(6) full", x.count(6), 100);
    }

    private static void promise3() {
        PulseTurns x = new PulseTurns();
        Due.is("3: clear of none", x.clear(), 0);
        Due.types(x, "t1;x");
        Due.is("3: clear", x.clear(), 4);
        Due.is("3: count(6)", x.count(6), 0);
        Due.is("3: clear again", x.clear(), 0);
        Due.is("3: heard", x.heard(), 0);
        for (int n = 0; n < 100; n++) {
            x.type('t');
        }
        Due.is("3: clear of all", x.clear(), 100);
        Due.is("3: type then", x.type('t'), 1);
    }

    private static void dueHeard(String letters, int want) {
        PulseTurns x = new PulseTurns();
        x.adds(77);
        x.adds(80);
        x.boxes(300, 400, 9);
        x.keep(0);
        Due.types(x, letters);
        Due.is("4: heard of '" + letters + "'", x.heard(), want);
        if (want < 0) {
            Due.state("4: nothing changes by '" + letters + "'", x, 2, 300, 400, 9, 3);
            Due.is("4: letters stay of '" + letters + "'", x.count(6), letters.length());
            Due.is("4: image stays at '" + letters + "'", x.back(0), 2);
        } else {
            Due.is("4: no letters are left of '" + letters + "'", x.count(6), 0);
            Due.is("4: nothing is undone behind '" + letters + "'", x.undo(), STATE);
            Due.is("4: no image is left behind '" + letters + "'", x.back(0), STATE);
        }
    }

    private static void promise4() {
        dueHeard("", 0);
        dueHeard("   ", 0);
        dueHeard("t5;", 1);
        dueHeard("  t  5  ;  ", 1);
        dueHeard("t0;t2999;", 2);
        dueHeard("b10 10 2;", 1);
        dueHeard("b999 999 99;", 1);
        dueHeard("t3;b10 999 0;t1;", 3);
        dueHeard("t1;t2;t3;t4;t5;t6;t7;", 7);
        dueHeard("t1;t2;t3;t4;t5;t6;t7;b397 397 99;", 8);
        heardFaults();
        PulseTurns x = Due.told("t30;b20 40 4;t10;t20;");
        Due.times("4: by times", x, 10, 20, 30);
        Due.state("4: box", x, 3, 20, 40, 4, 0);
        Due.types(x, "t9;");
        Due.is("4: heard again", x.heard(), 1);
        Due.state("4: all anew, the box too", x, 1, 100, 200, 2, 0);
    }

    private static void heardFaults() {
        dueHeard("x", -10);
        dueHeard(";", -10);
        dueHeard("5;", -10);
        dueHeard("t5;;", -13);
        dueHeard("t5 6;", -13);
        dueHeard("t5t6;", -12);
        dueHeard("tt", -11);
        dueHeard("bt", -11);
        dueHeard("t5", -12);
        dueHeard("t5  ", -14);
        dueHeard("t", -11);
        dueHeard(" b ", -13);
        dueHeard("b10 20", -16);
        dueHeard("b10 20 1 1;", -19);
        dueHeard("b10;", -13);
        dueHeard("b9 20 0;", -11);
        dueHeard("b1000 1000 0;", -11);
        dueHeard("b20 19 0;", -14);
        dueHeard("b20 1000 0;", -14);
        dueHeard("b20 30 5;", -17);
        dueHeard("b999 999 100;", -19);
        dueHeard("b20 30 1;t4;b20 30 1;", -22);
        dueHeard("t3000;", -11);
        dueHeard("t10000;", -11);
        dueHeard("t99999999999999999999999;", -11);
        dueHeard("t4294967297;", -11);
        dueHeard("t00;", -11);
        dueHeard("t 07;", -12);
        dueHeard("t7;t6;t 7;", -18);
        dueHeard("t1;t2;t3;t4;t5;t6;t7;t8;", -31);
        dueHeard("t1;t2;t3;t4;t5;t6;t7;t", -31);
        dueHeard("t-1;", -11);
        dueHeard("T1;", -10);
        dueHeard("t1;" + (char) 9, -13);
        dueHeard("t1;" + (char) 0, -13);
        dueHeard("t1;" + (char) 160, -13);
        dueHeard("t1" + (char) 176 + ";", -12);
        dueHeard("t1x;", -12);
        dueHeard("t x t x", -12);
    }

    private static void promise5() {
        PulseTurns x = Due.told("t2999;t0;t7;");
        Due.times("5", x, 0, 7, 2999);
        Due.is("5: time(3)", x.time(3), BAD);
        Due.is("5: time(-1)", x.time(-1), BAD);
        Due.is("5: time(greatest)", x.time(Integer.MAX_VALUE), BAD);
        Due.is("5: time(7)", x.time(7), BAD);
    }

    private static void promise6() {
        PulseTurns x = new PulseTurns();
        Due.is("6: adds(-1)", x.adds(-1), BAD);
        Due.is("6: adds(3000)", x.adds(3000), BAD);
        Due.is("6: nothing to undo", x.count(7), 0);
        Due.is("6: adds(500)", x.adds(500), 0);
        Due.is("6: adds(2999)", x.adds(2999), 1);
        Due.is("6: adds(0)", x.adds(0), 0);
        Due.is("6: adds(600)", x.adds(600), 2);
        Due.is("6: adds(500) again", x.adds(500), STATE);
        Due.times("6", x, 0, 500, 600, 2999);
        Due.is("6: may be undone", x.count(7), 4);
        x.adds(1);
        x.adds(2);
        x.adds(3);
        Due.is("6: an eighth", x.adds(4), FULL);
        Due.is("6: STATE ahead of FULL", x.adds(3), STATE);
        Due.is("6: BAD ahead of FULL", x.adds(3000), BAD);
        Due.times("6: seven", x, 0, 1, 2, 3, 500, 600, 2999);
        Due.is("6: refused ones can't be undone", x.count(7), 7);
    }

    private static void promise7() {
        PulseTurns x = Due.told("t10;t20;t30;t40;");
        Due.is("7: strikes(4)", x.strikes(4), BAD);
        Due.is("7: strikes(-1)", x.strikes(-1), BAD);
        Due.is("7: strikes(1)", x.strikes(1), 20);
        Due.times("7", x, 10, 30, 40);
        Due.is("7: strikes(2)", x.strikes(2), 40);
        Due.is("7: strikes(0)", x.strikes(0), 10);
        Due.is("7: strikes(0)", x.strikes(0), 30);
        Due.is("7: strikes(0) of none", x.strikes(0), BAD);
        Due.is("7: may be undone", x.count(7), 4);
        x.undo();
        Due.times("7: undone", x, 30);
    }

    private static void promise8() {
        PulseTurns x = Due.told("t0;t450;");
        Due.is("8: boxes", x.boxes(100, 200, 2), 2);
        Due.is("8: the same box counts too", x.count(7), 1);
        Due.is("8: boxes", x.boxes(100, 120, 2), 1);
        Due.is("8: boxes", x.boxes(120, 140, 2), 0);
        Due.is("8: boxes", x.boxes(10, 999, 2), 45);
        Due.state("8", x, 2, 10, 999, 2, 4);
        int[][] refused = {{9, 10, 0}, {10, 9, 0}, {1000, 1000, 0}, {10, 1000, 0}, {10, 10, -1},
            {12, 20, 3}, {999, 999, 100}, {-5, 5, 0}, {10, 20, Integer.MAX_VALUE}, {10, 20, 1 << 30}};
        for (int[] box : refused) {
            Due.is("8: " + box[0] + " " + box[1] + " " + box[2], x.boxes(box[0], box[1], box[2]), BAD);
        }
        Due.state("8: refused", x, 2, 10, 999, 2, 4);
        Due.is("8: 4 times the slack just below low", x.boxes(13, 13, 3), 1);
        Due.is("8: 397", x.boxes(397, 999, 99), 1);
        Due.is("8: none heard", new PulseTurns().boxes(10, 10, 0), 0);
        Due.is("8: one heard", Due.told("t5;").boxes(10, 10, 0), 1);
    }

    private static void promise9() {
        PulseTurns x = Due.told("t0;");
        x.boxes(20, 30, 1);
        x.adds(25);
        x.strikes(0);
        Due.is("9: undo strikes", x.undo(), 2);
        Due.times("9", x, 0, 25);
        Due.is("9: undo adds", x.undo(), 1);
        Due.times("9", x, 0);
        Due.is("9: undo boxes", x.undo(), 0);
        Due.state("9", x, 1, 100, 200, 2, 0);
        Due.is("9: undo of none", x.undo(), STATE);
        for (int low = 20; low < 33; low++) {
            x.boxes(low, 100, 3);
        }
        Due.is("9: ten are known", x.count(7), 10);
        for (int left = 9; left >= 0; left--) {
            Due.is("9: undo", x.undo(), left);
            Due.is("9: low", x.count(1), 22 + left);
        }
        Due.is("9: older ones are lost", x.undo(), STATE);
        Due.is("9: low stays", x.count(1), 22);
        x.adds(4000);
        x.strikes(5);
        Due.is("9: refused calls can't be undone", x.undo(), STATE);
        x.adds(40);
        x.keep(0);
        Due.is("9: an image is no change", x.undo(), 0);
    }

    private static void dueCounts(PulseTurns x, int i, int j, int way, int... want) {
        for (int what = 0; what < 3; what++) {
            String call = "10: counts(" + i + ", " + j + ", " + way + ", " + what + ")";
            Due.is(call, x.counts(i, j, way, what), want[what]);
        }
    }

    private static void promise10() {
        dueCounts(Due.told("t0;t1000;"), 0, 1, 0, 6, 5, 10);
        dueCounts(Due.told("t0;t1004;"), 0, 1, 0, 6, 5, 10);
        dueCounts(Due.told("t0;t1005;"), 0, 1, 0, 5, 6, 10);
        dueCounts(Due.told("t0;t996;"), 0, 1, 0, 6, 5, 10);
        dueCounts(Due.told("t0;t995;"), 0, 1, 0, 5, 5, 9);
        dueCounts(Due.told("t0;t3;b397 999 99;"), 0, 1, 0, 0, NONE, NONE);
        dueCounts(Due.told("t0;t199;b397 999 99;"), 0, 1, 0, 1, 1, 1);
        dueCounts(Due.told("b10 999 0;t0;t2999;"), 0, 1, 0, 296, 4, 299);
        // Two turns at least lie between arrivals 0 and 2.
        dueCounts(Due.told("t0;t100;t200;"), 0, 2, 0, 1, 2, 2);
        dueCounts(Due.told("t0;t50;t100;"), 0, 2, 0, 0, NONE, NONE);
        dueCounts(Due.told("t0;t50;t100;"), 0, 2, 1, STATE, STATE, STATE);
        PulseTurns x = Due.told("t0;t150;t1050;");
        dueCounts(x, 0, 1, 0, 1, 1, 1);
        dueCounts(x, 0, 2, 0, 5, 6, 10);
        dueCounts(x, 0, 2, 1, 1, 7, 7);
        dueCounts(x, 1, 2, 1, 1, 6, 6);
        int[][] refused = {{0, 0, 0, 0}, {1, 0, 0, 0}, {-1, 1, 0, 0}, {0, 3, 0, 0}, {0, 1, 2, 0},
            {0, 1, -1, 0}, {0, 1, 0, 3}, {0, 1, 0, -1}, {0, 7, 0, 0}, {3, 4, 0, 0}};
        PulseTurns none = Due.told("t0;t50;t100;");
        for (int[] q : refused) {
            String call = "10: counts(" + q[0] + ", " + q[1] + ", " + q[2] + ", " + q[3] + ")";
            Due.is(call, x.counts(q[0], q[1], q[2], q[3]), BAD);
            Due.is(call + " of EMPTY", none.counts(q[0], q[1], q[2], q[3]), BAD);
        }
        Due.is("10: BAD ahead of STATE", none.counts(0, 1, 1, 3), BAD);
    }

    private static void dueNarrowed(String letters, int... want) {
        PulseTurns x = Due.told(letters);
        for (int what = 0; what < 4; what++) {
            Due.is("11: narrowed(" + what + ") of " + letters, x.narrowed(what), want[what]);
        }
    }

    private static void promise11() {
        dueNarrowed("", 100, 1, 200, 1);
        dueNarrowed("b12 34 1;t9;", 12, 1, 34, 1);
        dueNarrowed("t0;t450;", 100, 1, 200, 1);
        dueNarrowed("t0;t150;", 146, 1, 154, 1);
        dueNarrowed("t0;t150;t1050;", 1046, 7, 1054, 7);
        // 100 by 1 alone fits, which leaves 100 to 104; the others follow.
        dueNarrowed("t0;t100;t1000;", 100, 1, 502, 5);
        dueNarrowed("t0;t196;t296;", 100, 1, 100, 1);
        dueNarrowed("t0;t50;", NONE, NONE, NONE, NONE);
        dueNarrowed("t0;t110;t250;", NONE, NONE, NONE, NONE);
        PulseTurns x = new PulseTurns();
        Due.is("11: narrowed(4)", x.narrowed(4), BAD);
        Due.is("11: narrowed(-1)", x.narrowed(-1), BAD);
        Due.is("11: BAD of EMPTY", Due.told("t0;t50;").narrowed(4), BAD);
    }

    private static void promise12() {
        PulseTurns x = Due.told("t0;t450;");
        Due.is("12: number(0, 0)", x.number(0, 0), 0);
        Due.is("12: number(0, 1)", x.number(0, 1), 3);
        Due.is("12: number(1, 0)", x.number(1, 0), 0);
        Due.is("12: number(1, 1)", x.number(1, 1), 4);
        Due.is("12: number(2, 0)", x.number(2, 0), NONE);
        Due.is("12: number(greatest, 0)", x.number(Integer.MAX_VALUE, 0), NONE);
        Due.is("12: number(-1, 0)", x.number(-1, 0), BAD);
        Due.is("12: number(0, 2)", x.number(0, 2), BAD);
        Due.is("12: number(0, -1)", x.number(0, -1), BAD);
        Due.is("12: number(9, 2)", x.number(9, 2), BAD);
        Due.is("12: of none", new PulseTurns().number(0, 0), BAD);
        Due.is("12: of one", Due.told("t5;").number(0, 0), 0);
        Due.is("12: of one", Due.told("t5;").number(1, 0), NONE);
        // By the very period 10: every time is a tenth of its number.
        PulseTurns even = Due.told("b10 10 2;t4;t2994;t24;t44;t74;t2984;t94;");
        int[] want = {0, 2, 4, 7, 9, 298, 299};
        for (int a = 0; a < want.length; a++) {
            Due.is("12: even number(0, " + a + ")", even.number(0, a), want[a]);
        }
        Due.is("12: even number(1, 0)", even.number(1, 0), NONE);
    }

    private static void dueBox(PulseTurns x, int k, int... want) {
        for (int what = 0; what < 4; what++) {
            Due.is("13: box(" + k + ", " + what + ")", x.box(k, what), want[what]);
        }
    }

    private static void promise13() {
        PulseTurns x = Due.told("t0;t450;");
        dueBox(x, 0, 446, 3, 454, 3);
        dueBox(x, 1, 223, 2, 227, 2);
        dueBox(x, 2, NONE, NONE, NONE, NONE);
        dueBox(x, Integer.MAX_VALUE, NONE, NONE, NONE, NONE);
        dueBox(Due.told("t5;"), 0, 100, 1, 200, 1);
        dueBox(Due.told("t0;t196;t296;"), 0, 100, 1, 100, 1);
        dueBox(new PulseTurns(), 0, NONE, NONE, NONE, NONE);
        Due.is("13: box(-1, 0)", x.box(-1, 0), BAD);
        Due.is("13: box(0, 4)", x.box(0, 4), BAD);
        Due.is("13: box(0, -1)", x.box(0, -1), BAD);
        Due.is("13: box(9, 4)", x.box(9, 4), BAD);
    }

    private static void dueHeld(PulseTurns x, int gap, int... want) {
        for (int what = 0; what < 3; what++) {
            Due.is("14: held(" + gap + ", " + what + ")", x.held(gap, what), want[what]);
        }
    }

    private static void promise14() {
        dueHeld(Due.told("t0;t450;"), 0, 2, 3, 4);
        dueHeld(Due.told("t0;t50;"), 0, 0, NONE, NONE);
        PulseTurns x = Due.told("t0;t150;t600;");
        dueHeld(x, 0, 1, 1, 1);
        dueHeld(x, 1, 1, 3, 3);
        // Periods 60, 30, 20: what lies between 2 and 6 in no numbering is not held.
        PulseTurns y = Due.told("b20 60 0;t0;t60;t180;");
        dueHeld(y, 0, 3, 1, 3);
        dueHeld(y, 1, 3, 2, 6);
        Due.is("14: held(2, 0)", x.held(2, 0), BAD);
        Due.is("14: held(-1, 0)", x.held(-1, 0), BAD);
        Due.is("14: held(0, 3)", x.held(0, 3), BAD);
        Due.is("14: held(0, -1)", x.held(0, -1), BAD);
        Due.is("14: of one", Due.told("t5;").held(0, 0), BAD);
        Due.is("14: of none", new PulseTurns().held(0, 0), BAD);
    }

    private static void dueBend(String letters, int upper, int lower) {
        PulseTurns x = Due.told(letters);
        Due.is("15: bend(0, 1, 2, 0) of " + letters, x.bend(0, 1, 2, 0), upper);
        Due.is("15: bend(0, 1, 2, 1) of " + letters, x.bend(0, 1, 2, 1), lower);
    }

    private static void promise15() {
        dueBend("t0;t150;t303;", 3, 1);
        dueBend("t0;t150;t297;", -3, 1);
        dueBend("t0;t150;t300;", 0, 1);
        // 301 by 2 less 150 by 1; 449 by 3 less 150.
        dueBend("t0;t150;t451;", 1, 2);
        dueBend("t0;t150;t599;", -1, 3);
        dueBend("t0;t50;t300;", NO, NO);
        PulseTurns x = Due.told("t0;t150;t303;t450;");
        Due.is("15: bend(0, 1, 3, 0)", x.bend(0, 1, 3, 0), 0);
        Due.is("15: bend(1, 2, 3, 0)", x.bend(1, 2, 3, 0), -6);
        Due.is("15: bend(0, 2, 3, 0)", x.bend(0, 2, 3, 0), -9);
        Due.is("15: bend(0, 2, 3, 1)", x.bend(0, 2, 3, 1), 2);
        int[][] refused = {{0, 0, 1, 0}, {0, 1, 1, 0}, {1, 0, 2, 0}, {-1, 0, 1, 0}, {1, 2, 4, 0},
            {0, 1, 2, 2}, {0, 1, 2, -1}, {4, 5, 6, 0}};
        for (int[] q : refused) {
            String call = "15: bend(" + q[0] + ", " + q[1] + ", " + q[2] + ", " + q[3] + ")";
            Due.is(call, x.bend(q[0], q[1], q[2], q[3]), NO);
        }
    }

    private static void promise16() {
        PulseTurns x = Due.told("t0;t450;");
        Due.is("16: left(150)", x.left(150), 1);
        Due.is("16: left(225)", x.left(225), 1);
        Due.is("16: left(900)", x.left(900), 2);
        Due.is("16: left(50)", x.left(50), 0);
        Due.is("16: left(450)", x.left(450), STATE);
        Due.is("16: left(0)", x.left(0), STATE);
        Due.is("16: left(-1)", x.left(-1), BAD);
        Due.is("16: left(3000)", x.left(3000), BAD);
        Due.state("16: nothing changes", x, 2, 100, 200, 2, 0);
        Due.times("16: nothing changes", x, 0, 450);
        Due.is("16: one ahead of all", Due.told("t150;t600;").left(0), 1);
        Due.is("16: of none", new PulseTurns().left(2999), 1);
        PulseTurns seven = Due.told("t1;t2;t3;t4;t5;t6;t7;");
        Due.is("16: FULL", seven.left(8), FULL);
        Due.is("16: STATE ahead of FULL", seven.left(7), STATE);
        Due.is("16: BAD ahead of FULL", seven.left(3000), BAD);
    }

    private static void promise17() {
        Due.is("17: of none", new PulseTurns().listen(), NONE);
        Due.is("17: 196", Due.told("t0;t100;").listen(), 196);
        Due.is("17: just 100 times", Due.told("t0;t150;t300;").listen(), NONE);
        Due.is("17: the hundredth", Due.told("t50;b100 200 0;").listen(), 150);
        Due.is("17: one too far", Due.told("t50;b101 200 0;").listen(), NONE);
        Due.is("17: 50", Due.told("t0;b50 100 0;").listen(), 50);
        Due.is("17: up to 2999", Due.told("t2949;b50 60 0;").listen(), 2999);
        Due.is("17: none up to 2999", Due.told("t2950;b50 60 0;").listen(), NONE);
        Due.is("17: last is 2999", Due.told("t2999;b10 60 0;").listen(), NONE);
        Due.is("17: none stands", Due.told("t0;t50;").listen(), NONE);
        // 210 is a ninth behind 189: 9 turns, or 18, lie ahead; 216 a seventh: 14 alone do.
        PulseTurns ninth = Due.told("b10 25 0;t0;t189;");
        Due.is("17: two are left", ninth.left(210), 2);
        Due.is("17: one is left", ninth.left(216), 1);
        Due.is("17: fewest", ninth.listen(), 216);
        Due.is("17: FULL", Due.told("t1;t2;t3;t4;t5;t6;t7;").listen(), FULL);
        PulseTurns x = Due.told("t0;t100;");
        x.listen();
        Due.times("17: nothing changes", x, 0, 100);
        Due.state("17: nothing changes", x, 2, 100, 200, 2, 0);
    }

    private static void dueOdds(String letters, int x, int upper, int lower) {
        PulseTurns p = Due.told(letters);
        Due.is("18: odds(" + x + ", 0) of " + letters, p.odds(x, 0), upper);
        Due.is("18: odds(" + x + ", 1) of " + letters, p.odds(x, 1), lower);
    }

    private static void promise18() {
        dueOdds("", 0, 0, 1);
        dueOdds("", 10, 0, 1);
        dueOdds("t5;", 0, 1, 1);
        dueOdds("t5;", 3, 7, 10);
        dueOdds("t5;", 10, 0, 1);
        dueOdds("t0;t150;", 5, 3, 4);
        dueOdds("t0;t150;", 0, 1, 1);
        dueOdds("t0;t150;", 10, 0, 1);
        dueOdds("t0;t450;", 5, 1, 2);
        dueOdds("t0;t450;", 3, 21, 50);
        dueOdds("t0;t450;", 0, 0, 1);
        // All seven stay, of one period: just one stands.
        dueOdds("b10 10 2;t0;t10;t20;t30;t40;t50;t60;", 1, 9999999, 10000000);
        PulseTurns p = Due.told("t0;t450;");
        Due.is("18: odds(11, 0)", p.odds(11, 0), BAD);
        Due.is("18: odds(-1, 0)", p.odds(-1, 0), BAD);
        Due.is("18: odds(5, 2)", p.odds(5, 2), BAD);
        Due.is("18: odds(5, -1)", p.odds(5, -1), BAD);
        Due.times("18: nothing changes", p, 0, 450);
        Due.state("18: nothing changes", p, 2, 100, 200, 2, 0);
    }

    private static void promises19And20() {
        PulseTurns x = Due.told("t10;t20;b20 30 1;");
        Due.is("19: keep(2)", x.keep(2), BAD);
        Due.is("19: keep(-1)", x.keep(-1), BAD);
        Due.is("20: back(2)", x.back(2), BAD);
        Due.is("20: back(-1)", x.back(-1), BAD);
        Due.is("20: back(0) of none", x.back(0), STATE);
        Due.is("19: keep(0)", x.keep(0), 2);
        Due.is("20: back(1) of none", x.back(1), STATE);
        x.adds(5);
        x.boxes(40, 50, 3);
        Due.types(x, "t1");
        Due.is("19: keep(1)", x.keep(1), 3);
        Due.is("19: what may be undone stays", x.count(7), 2);
        x.strikes(0);
        Due.is("20: back(0)", x.back(0), 2);
        Due.times("20: back(0)", x, 10, 20);
        Due.state("20: back(0)", x, 2, 20, 30, 1, 0);
        Due.is("20: the text stays", x.count(6), 2);
        Due.is("20: nothing can be undone", x.undo(), STATE);
        x.strikes(1);
        Due.is("20: back(1)", x.back(1), 3);
        Due.times("20: back(1)", x, 5, 10, 20);
        Due.state("20: back(1)", x, 3, 40, 50, 3, 0);
        Due.is("20: again", x.back(0), 2);
        x.strikes(0);
        Due.is("19: over the old one", x.keep(0), 1);
        x.undo();
        Due.is("20: the new one", x.back(0), 1);
        Due.times("20: the new one", x, 20);
        Due.is("19: none heard", new PulseTurns().keep(1), 0);
    }

    private static void promise21() {
        PulseTurns x = Due.told("t0;t450;b100 200 2;");
        x.adds(900);
        Due.types(x, "abc");
        int[] want = {3, 100, 200, 2, 2, 1, 3, 1};
        for (int what = 0; what < want.length; what++) {
            Due.is("21: count(" + what + ")", x.count(what), want[what]);
        }
        Due.is("21: count(8)", x.count(8), BAD);
        Due.is("21: count(-1)", x.count(-1), BAD);
        Due.is("21: one is certain", Due.told("t5;").count(5), 1);
        Due.is("21: all are certain", Due.told("t0;t150;t300;").count(5), 7);
        Due.is("21: none stands", Due.told("t0;t50;").count(5), 0);
        Due.is("21: none stands", Due.told("t0;t50;").count(4), 0);
        Due.is("21: seven are certain", Due.told("b10 10 2;t0;t10;t20;t30;t40;t50;t60;").count(5), 127);
        Due.is("21: four stand", Due.told("b100 200 9;t0;t150;t2400;").count(4), 4);
        Due.is("21: two are certain", Due.told("b100 200 9;t0;t150;t2400;").count(5), 3);
    }

    public static void main(String[] args) {
        promise1();
        promise2();
        promise3();
        promise4();
        promise5();
        promise6();
        promise7();
        promise8();
        promise9();
        promise10();
        promise11();
        promise12();
        promise13();
        promise14();
        promise15();
        promise16();
        promise17();
        promise18();
        promises19And20();
        promise21();
        Due.end("PromisesTest");
    }
}
