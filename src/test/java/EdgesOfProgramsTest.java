/** Promises 1 to 8: a test of its own for each sentence that names a boundary, told by hand. */
public final class EdgesOfProgramsTest {
    /** Texts that leave coroutine 0 in state 0, 1, .. 8. */
    static final String[] IN_STATE = {"c000;", "p0a0;c000;l01;", "p0y0;c000;n000;", "p0s0;c000;n000;",
        "p0g0;c000;n000;", "p0j1;c000;c100;n000;", "c000;n000;", "p0t0;c000;n000;", "c000;x0;"};
    private static final int MIN = Integer.MIN_VALUE;
    private static final int MAX = Integer.MAX_VALUE;
    private static final Check CHECK = new Check();

    public static void main(String[] args) {
        aNewObject();
        textsThatCannotGoOn();
        digitsOfTexts();
        textsOfManyStatements();
        statementsOutOfRange();
        statementsThatCannotBe();
        textsAllOrNothing();
        shelvesOfTexts();
        programs();
        coming();
        coroutinesAtFirst();
        coroutinesAtTheirEnds();
        weights();
        framesTold();
        causesTold();
        channelsTold();
        CHECK.dueSentences(1, 8);
        CHECK.end("EdgesOfProgramsTest");
    }

    private static void due(String call, long got, long want) {
        CHECK.due(call, got, want);
    }

    private static void dueText(String told, int want) {
        due("text " + told, Check.text(new StepMachines(), told), want);
    }

    private static void aNewObject() {
        CHECK.says(1, "No COROUTINES", () -> {
            StepMachines x = new StepMachines();
            due("how many", x.count(0), 0);
            due("the first", x.coroutine(0, 0), -1);
            due("ended", x.count(3), 0);
            due("waiting", x.count(4), 0);
            due("outs", x.count(5), 0);
        });
        CHECK.says(1, "no STEPS (PROGRAMS 0 .. 4, always there, none at first)", () -> {
            StepMachines x = new StepMachines();
            for (int p = 0; p < 5; p++) {
                due("steps of " + p, x.program(p, -1, 0), 0);
                due("the first of " + p, x.program(p, 0, 0), -1);
            }
        });
        CHECK.says(1, "WIDTH (8 at first)", () -> due("width", new StepMachines().count(2), 8));
        CHECK.says(1, "ROUND (0 at first)", () -> due("round", new StepMachines().count(1), 0));
        CHECK.says(1, "CHANNELS 0 .. 2: nobody at first", () -> {
            for (int ch = 0; ch < 3; ch++) {
                due("sending", new StepMachines().channel(ch, -1, 0), 0);
                due("getting", new StepMachines().channel(ch, -1, 1), 0);
            }
        });
        CHECK.says(1, "SHELVES 0 .. 7 each hold nothing (at first)", () -> {
            StepMachines x = new StepMachines();
            for (int d = 0; d < 8; d++) {
                due("shelf " + d, x.cost(d), -11);
                due("shelf " + d, x.put(d, 0, 0), -11);
            }
        });
        CHECK.says(1, "THE IMAGE: there is none at first", () -> due("restore", new StepMachines().restore(), -3));
    }

    private static final String[] STATEMENTS = {"p0y1fa2;", "p3;", "c012;", "n012;", "x0;", "w1;", "l01;"};

    private static void textsThatCannotGoOn() {
        CHECK.says(2, "kind 1 the place of the first byte with which no TEXT can go on", () -> {
            int[] wrongOnes = {'!', '/', ':', 'A', 'Y', 'q', 0, ' ', 127, -1, -128};
            for (String whole : STATEMENTS) {
                for (int place = 0; place < whole.length(); place++) {
                    for (int b : wrongOnes) {
                        int[] told = whole.chars().toArray();
                        told[place] = b;
                        StepMachines x = new StepMachines();
                        Check.onShelf(x, 0, 0, told);
                        due(whole + " with " + b + " at " + place, x.text(0), -1000 - place);
                    }
                }
            }
        });
        CHECK.says(2, "(the end, if something lacks)", () -> {
            for (String whole : STATEMENTS) {
                for (int size = 0; size < whole.length(); size++) {
                    dueText(whole.substring(0, size), -1000 - size);
                }
            }
        });
        CHECK.says(2, "(the end, if something lacks), behind another STATEMENT", () -> {
            for (String whole : STATEMENTS) {
                for (int size = 1; size < whole.length(); size++) {
                    dueText("w2;" + whole.substring(0, size), -1003 - size);
                }
            }
        });
        CHECK.says(2, "STATEMENTS, one at least", () -> {
            dueText("", -1000);
            dueText(";", -1000);
        });
        CHECK.says(2, "each with \";\" behind", () -> {
            dueText("w1w2;", -1002);
            dueText("w1;w2", -1005);
            dueText("w1;;", -1003);
        });
        CHECK.says(2, "kind 1, else kind 2: kind 1 goes ahead wherever it stands", () -> {
            dueText("w0;w1", -1005);
            dueText("c900;n900;x9;?", -1013);
            dueText("p0ff", -1004);
        });
    }

    private static void digitsOfTexts() {
        CHECK.says(2, "numbers in THE TEXT have just as many digits as told: too few", () -> {
            dueText("p;", -1001);
            dueText("py1;", -1001);
            dueText("c;", -1001);
            dueText("c0;", -1002);
            dueText("c00;", -1003);
            dueText("n;", -1001);
            dueText("n0;", -1002);
            dueText("n01;", -1003);
            dueText("x;", -1001);
            dueText("w;", -1001);
            dueText("l;", -1001);
            dueText("l1;", -1002);
        });
        CHECK.says(2, "numbers in THE TEXT have just as many digits as told: too many", () -> {
            dueText("p00;", -1002);
            dueText("c0000;", -1004);
            dueText("n0000;", -1004);
            dueText("x00;", -1002);
            dueText("w01;", -1002);
            dueText("l001;", -1003);
        });
        CHECK.says(2, "letters y, a, m, z, r, d, t, s, g, j with a digit each", () -> {
            for (char letter : "yamzrdtsgj".toCharArray()) {
                dueText("p0" + letter + ";", -1003);
                dueText("p0" + letter, -1003);
                dueText("p0" + letter + "f;", -1003);
                dueText("p0" + letter + "12;", -1004);
                dueText("p0" + letter + "0;", 1);
                dueText("p0" + letter + "9;", 1);
            }
        });
        CHECK.says(2, "letters: no other one", () -> {
            for (char letter = 'a'; letter <= 'z'; letter++) {
                boolean known = "yamzrdtsgj".indexOf(letter) >= 0;
                dueText("p0" + letter + "0;", known ? 1 : letter == 'f' ? -1003 : -1002);
                boolean begins = "pcnxwl".indexOf(letter) >= 0;
                dueText(letter + ";", begins ? -1001 : -1000);
            }
        });
        CHECK.says(2, "f without (a digit)", () -> {
            dueText("p0f0;", -1003);
            dueText("p0f;", 1);
            dueText("p0y0f;", 1);
            dueText("p0fy0;", 1);
        });
        CHECK.says(2, "v (2 digits): 00 .. 99", () -> {
            StepMachines x = Check.of("p0y0y0y0;c000;n000;n099;");
            due("99", x.coroutine(0, 1), 99);
            Check.text(x, "n000;");
            due("00", x.coroutine(0, 1), 0);
        });
    }

    private static void textsOfManyStatements() {
        CHECK.says(2, "a ROW has 0 .. 100 elements: a text that is full", () -> {
            dueText("l01;".repeat(25), 25);
            dueText("w1;".repeat(33), 33);
            dueText("w1;".repeat(33) + "w", -1100);
            dueText("w1;".repeat(33) + "1", -1099);
            dueText("w1;".repeat(32) + "p0y1", -1100);
            dueText("w1;".repeat(32) + "w0;", -2096);
        });
        CHECK.says(2, "STEPS (16 at most): more than 16 STEPS", () -> {
            dueText("p0" + "y1".repeat(16) + ";", 1);
            dueText("p0" + "y1".repeat(17) + ";", -2000);
            dueText("p0f" + "y1".repeat(15) + ";", 1);
            dueText("p0f" + "y1".repeat(16) + ";", -2000);
            dueText("p0" + "y1".repeat(16) + "f;", -2000);
            dueText("p0" + "y1".repeat(48) + ";", -2000);
        });
        CHECK.says(2, "a second \"f\"", () -> {
            dueText("p0ff;", -2000);
            dueText("w1;p0fy1f;", -2003);
            dueText("p0f;p0f;", 2);
            dueText("p0f;p1f;", 2);
        });
        CHECK.says(2, "A PROGRAM in THE TEXT may have no STEPS", () -> {
            StepMachines x = Check.of("p0y1y2;p0;");
            due("steps", x.program(0, -1, 0), 0);
        });
        CHECK.says(2, "the first that can't be done so is told", () -> {
            dueText("w1;w0;p5;", -2003);
            dueText("w1;p5;w0;", -2003);
            dueText("x0;c000;", -2000);
        });
    }

    private static void statementsOutOfRange() {
        CHECK.says(2, "a number out of range: PROGRAMS 0 .. 4", () -> {
            dueText("p4y1;", 1);
            dueText("p5y1;", -2000);
            dueText("p9;", -2000);
            dueText("c400;", 1);
            dueText("c500;", -2000);
            dueText("c900;", -2000);
        });
        CHECK.says(2, "a number out of range: a KIND (0 .. 5)", () -> {
            dueText("c050;", 1);
            dueText("c060;", -2000);
            dueText("c090;", -2000);
        });
        CHECK.says(2, "a FIGURE (0 .. 9)", () -> {
            StepMachines x = Check.of("c010;c019;");
            due("figure", x.coroutine(0, 7), 0);
            due("figure", x.coroutine(1, 7), 9);
        });
        CHECK.says(2, "a number out of range: WIDTH (1 .. 8)", () -> {
            dueText("w0;", -2000);
            dueText("w1;", 1);
            dueText("w8;", 1);
            dueText("w9;", -2000);
        });
        CHECK.says(2, "a number out of range: ROUNDS (1 .. 60)", () -> {
            dueText("l00;", -2000);
            dueText("l01;", 1);
            dueText("l60;", 1);
            dueText("l61;", -2000);
            dueText("l99;", -2000);
        });
        CHECK.says(2, "no such COROUTINE", () -> {
            dueText("n000;", -2000);
            dueText("x0;", -2000);
            dueText("c000;n100;", -2005);
            dueText("c000;x1;", -2005);
            dueText("c000;".repeat(8) + "n700;", 9);
            dueText("c000;".repeat(8) + "n800;", -2040);
            dueText("c000;".repeat(8) + "x7;", 9);
            dueText("c000;".repeat(8) + "x8;", -2040);
            dueText("c000;".repeat(8) + "x9;", -2040);
        });
    }

    private static void statementsThatCannotBe() {
        CHECK.says(2, "no room (8 at most)", () -> {
            dueText("c000;".repeat(8), 8);
            dueText("c000;".repeat(9), -2040);
        });
        CHECK.says(2, "one that can't be sent to", () -> {
            for (int state = 0; state < 9; state++) {
                StepMachines x = Check.of(IN_STATE[state]);
                due("its state", x.coroutine(0, 0), state);
                due("n in state " + state, Check.text(x, "n000;"), state <= 2 ? 1 : -2000);
            }
        });
        CHECK.says(2, "ENDED (\"x\")", () -> {
            for (int state = 0; state < 9; state++) {
                StepMachines x = Check.of(IN_STATE[state]);
                due("x in state " + state, Check.text(x, "x0;"), state <= 5 ? 1 : -2000);
            }
        });
        CHECK.says(2, "ROUND above 999", () -> {
            StepMachines x = Check.of("l60;".repeat(16));
            due("960 and 40", Check.text(x, "l40;"), -2000);
            due("960 and 60", Check.text(x, "l60;"), -2000);
            due("960, 38, 2", Check.text(x, "l38;l02;"), -2004);
            due("960 and 39", Check.text(x, "l39;"), 1);
            due("round", x.count(1), 999);
            due("999 and 1", Check.text(x, "l01;"), -2000);
        });
        CHECK.says(2, "each on what those ahead of it made", () -> {
            dueText("c000;x0;", 2);
            dueText("c000;x0;x0;", -2008);
            dueText("c000;x0;n000;", -2008);
            dueText("p0y0;c000;n000;n000;n000;", -2020);
            dueText("p0g0;p1s0;c000;c100;n000;n100;n000;", 7);
        });
    }

    private static void textsAllOrNothing() {
        CHECK.says(2, "Without FAULT all of it comes, with one nothing: kind 2", () -> {
            StepMachines x = Check.of("p0y1;c000;");
            due("faulty", Check.text(x, "p0a1;p1y1;c100;n000;x1;w2;l09;w0;"), -2030);
            due("program 0", x.program(0, 0, 0), 'y');
            due("program 1", x.program(1, -1, 0), 0);
            due("coroutines", x.count(0), 1);
            due("state", x.coroutine(0, 0), 0);
            due("width", x.count(2), 8);
            due("round", x.count(1), 0);
        });
        CHECK.says(2, "Without FAULT all of it comes, with one nothing: kind 1", () -> {
            StepMachines x = new StepMachines();
            due("faulty", Check.text(x, "w2;c000;?"), -1008);
            due("width", x.count(2), 8);
            due("coroutines", x.count(0), 0);
        });
        CHECK.says(2, "how many STATEMENTS", () -> {
            StepMachines x = new StepMachines();
            due("all", Check.text(x, "p0y1;c100;n000;c000;x1;w2;l09;"), 7);
            due("coroutines", x.count(0), 2);
            due("width", x.count(2), 2);
            due("round", x.count(1), 9);
        });
        CHECK.says(2, "The ROW of a text stays there", () -> {
            StepMachines x = Check.of("c000;");
            due("once more", x.text(7), 1);
            due("coroutines", x.count(0), 2);
            due("its first byte", x.element(7, 0), 'c');
        });
    }

    private static void shelvesOfTexts() {
        CHECK.says(2, "-1 no such SHELF", () -> {
            for (int d : new int[] {-1, 8, MIN, MAX}) {
                due("text " + d, new StepMachines().text(d), -1);
            }
        });
        CHECK.says(2, "-11 nothing is held", () -> due("text", new StepMachines().text(0), -11));
        CHECK.says(2, "-12 (no ROW of bytes)", () -> {
            StepMachines x = new StepMachines();
            x.keep(0, 1, 0, 0);
            due("a manner", x.text(0), -12);
            Check.onShelf(x, 0, 1, 'w', '1', ';');
            due("shorts", x.text(0), -12);
            Check.onShelf(x, 0, 2, 'w', '1', ';');
            due("ints", x.text(0), -12);
            x.row(0, 1, 0);
            due("no shorts at all", x.text(0), -12);
            Check.onShelf(x, 0, 0, 'w', '1', ';');
            due("bytes", x.text(0), 1);
        });
    }

    private static void programs() {
        CHECK.says(3, "-1 no such PROGRAM (0 .. 4)", () -> {
            StepMachines x = Check.of("p0y1;p4y1;");
            for (int p : new int[] {-1, 5, MIN, MAX}) {
                due("program " + p, x.program(p, -1, 0), -1);
                due("program " + p, x.program(p, 0, 0), -1);
            }
            due("program 4", x.program(4, 0, 0), 'y');
        });
        CHECK.says(3, "-1 no such STEP", () -> {
            StepMachines x = Check.of("p0y1a2;p1" + "m3".repeat(16) + ";");
            for (int i : new int[] {-2, 2, MIN, MAX}) {
                due("step " + i, x.program(0, i, 0), -1);
            }
            due("the last", x.program(0, 1, 0), 'a');
            due("the 16th", x.program(1, 15, 1), 3);
            due("a 17th", x.program(1, 16, 1), -1);
            due("of none", x.program(2, 0, 0), -1);
        });
        CHECK.says(3, "-1 what (0, 1)", () -> {
            StepMachines x = Check.of("p0y1;");
            for (int what : new int[] {-1, 2, MIN, MAX}) {
                due("what " + what, x.program(0, 0, what), -1);
            }
        });
        CHECK.says(3, "How many STEPS a PROGRAM has (i -1): 0 .. 16", () -> {
            StepMachines x = Check.of("p1" + "y1".repeat(15) + "f;");
            due("none", x.program(0, -1, 0), 0);
            due("16", x.program(1, -1, 0), 16);
            due("16, what 1", x.program(1, -1, 1), 16);
        });
        CHECK.says(3, "n (1; 0 of \"f\"), a digit", () -> {
            StepMachines x = Check.of("p0y9fj0;");
            due("9", x.program(0, 0, 1), 9);
            due("f", x.program(0, 1, 1), 0);
            due("its letter", x.program(0, 1, 0), 'f');
            due("0", x.program(0, 2, 1), 0);
        });
    }

    private static void coming() {
        CHECK.says(4, "-1, -11, -12 (a ROW), -2: each one", () -> {
            StepMachines x = new StepMachines();
            x.keep(0, 1, 0, 0);
            x.row(1, 0, 0);
            for (int wrong : new int[] {-1, MIN, MAX}) {
                due("program " + wrong, x.comes(wrong, 0), -1);
                due("shelf " + wrong, x.comes(0, wrong), -1);
            }
            due("program 5", x.comes(5, 0), -1);
            due("shelf 8", x.comes(0, 8), -1);
            due("nothing held", x.comes(0, 2), -11);
            due("a row", x.comes(0, 1), -12);
            due("nobody came", x.count(0), 0);
        });
        CHECK.says(4, "the first one as they are told at the call", () -> {
            StepMachines x = Check.of("c000;".repeat(8));
            x.keep(0, 1, 0, 0);
            due("no such program ahead of nothing", x.comes(5, 2), -1);
            due("no such program ahead of a row", x.comes(5, 7), -1);
            due("no such shelf ahead of no room", x.comes(0, 8), -1);
            due("nothing ahead of no room", x.comes(0, 2), -11);
            due("a row ahead of no room", x.comes(0, 7), -12);
            due("no room", x.comes(0, 0), -2);
        });
        CHECK.says(4, "COROUTINES 0 .. as they come (8 at most)", () -> {
            StepMachines x = new StepMachines();
            x.keep(0, 1, 5, 9);
            for (int c = 0; c < 8; c++) {
                due("its number", x.comes(4, 0), c);
            }
            due("a ninth", x.comes(4, 0), -2);
            due("eight", x.count(0), 8);
        });
        CHECK.says(4, "no room is made by one that ENDED", () -> {
            StepMachines x = Check.of("c000;".repeat(8) + "x0;x7;");
            x.keep(0, 1, 0, 0);
            due("comes", x.comes(0, 0), -2);
        });
        CHECK.says(4, "what is taken from a SHELF, stay there", () -> {
            StepMachines x = new StepMachines();
            x.keep(0, 1, 3, 9);
            x.comes(0, 0);
            due("the manner", x.toss(0), 109);
            x.keep(0, 1, 2, 1);
            due("another one there does not change the first", x.coroutine(0, 6), 3);
        });
    }

    private static void coroutinesAtFirst() {
        CHECK.says(5, "what it is at first", () -> {
            StepMachines x = Check.of("p3y1;c327;");
            int[] wants = {0, 0, -4, 0, 0, 3, 2, 7, 93, 1, -4, 0};
            for (int what = 0; what < wants.length; what++) {
                due("what " + what, x.coroutine(0, what), wants[what]);
            }
        });
        CHECK.says(5, "-1 no such one", () -> {
            StepMachines x = Check.of("c000;".repeat(8));
            for (int c : new int[] {-1, 8, MIN, MAX}) {
                due("coroutine " + c, x.coroutine(c, 0), -1);
            }
            due("the last", x.coroutine(7, 0), 0);
            due("one that has not come", Check.of("c000;").coroutine(1, 0), -1);
        });
        CHECK.says(5, "-1 what (0 .. 11)", () -> {
            StepMachines x = Check.of("c000;");
            for (int what : new int[] {-1, 12, MIN, MAX}) {
                due("what " + what, x.coroutine(0, what), -1);
            }
        });
        CHECK.says(5, "STATE 0 .. 8", () -> {
            for (int state = 0; state < 9; state++) {
                due("state", Check.of(IN_STATE[state]).coroutine(0, 0), state);
            }
        });
        CHECK.says(5, "ENDED; then it has no FRAME", () -> {
            for (int state = 0; state < 9; state++) {
                due("frames in state " + state, Check.of(IN_STATE[state]).coroutine(0, 9), state < 6 ? 1 : 0);
            }
        });
        CHECK.says(5, "the CHANNEL or the other one it waits for (10; -4)", () -> {
            for (int state = 0; state < 9; state++) {
                int want = state == 3 || state == 4 ? 0 : state == 5 ? 1 : -4;
                due("waits in state " + state, Check.of(IN_STATE[state]).coroutine(0, 10), want);
            }
            due("channel 2", Check.of("p0s2;c000;n000;").coroutine(0, 10), 2);
            due("the 8th one", Check.of("p0j7;" + "c000;".repeat(8) + "n000;").coroutine(0, 10), 7);
        });
        CHECK.says(5, "how many FAULTS (11; 0 if it is not FAULTY)", () -> {
            for (int state = 0; state < 9; state++) {
                due("faults in state " + state, Check.of(IN_STATE[state]).coroutine(0, 11), state == 7 ? 1 : 0);
            }
            due("holding one", Check.of("p0t1fy0;c000;n000;").coroutine(0, 11), 0);
        });
    }

    private static void coroutinesAtTheirEnds() {
        CHECK.says(5, "OUT (the last it yielded; -4 at first)", () -> {
            StepMachines x = Check.of("p0y0y9;c000;");
            due("none", x.coroutine(0, 2), -4);
            x.send(0, 0);
            due("0 is not none", x.coroutine(0, 2), 0);
            x.send(0, 0);
            due("the last", x.coroutine(0, 2), 9);
            x.send(0, 0);
            due("stays when it is done", x.coroutine(0, 2), 9);
        });
        CHECK.says(5, "OUTS (how many, 999 at most)", () -> {
            StepMachines x = Check.of("p0d1r9;p1d2r9;p2d3r9;p3y3r9;c000;");
            Check.onShelf(x, 0, 0, "n000;".repeat(20).chars().toArray());
            for (int i = 0; i < 49; i++) {
                x.text(0);
            }
            due("980", x.coroutine(0, 3), 980);
            for (int outs = 981; outs <= 1003; outs++) {
                due("paused", x.send(0, 0), 2);
                due("outs", x.coroutine(0, 3), Math.min(outs, 999));
            }
            due("out", x.coroutine(0, 2), 3);
        });
        CHECK.says(5, "ACC (0 .. 999)", () -> {
            StepMachines x = Check.of("p0y0a1y0a9;c000;n000;");
            x.send(0, 999);
            due("999 and 1", x.coroutine(0, 1), 0);
            x.send(0, 990);
            due("990 and 9", x.coroutine(0, 1), 999);
        });
        CHECK.says(5, "ACC, OUT, OUTS, AGE of one ENDED stay", () -> {
            StepMachines x = Check.of("p0y7y9;c049;w1;c059;l01;n000;n011;x0;");
            int[] wants = {8, 11, 10, 2, 1, 0, 4, 9, 96, 0, -4, 0};
            for (int what = 0; what < wants.length; what++) {
                due("what " + what, x.coroutine(0, what), wants[what]);
            }
        });
    }

    private static void weights() {
        CHECK.says(5, "WEIGHT and 100, by FIGURES 0 .. 9", () -> {
            for (int figure = 0; figure < 10; figure++) {
                int[] wants = {100, 100 + figure, 100 - figure, 102 + figure, 100 - figure / 2, 100};
                for (int kind = 0; kind < 6; kind++) {
                    StepMachines x = Check.of("c0" + kind + figure + ";");
                    due("kind " + kind + " figure " + figure, x.coroutine(0, 8), wants[kind]);
                    due("kind", x.coroutine(0, 6), kind);
                    due("figure", x.coroutine(0, 7), figure);
                }
            }
        });
        CHECK.says(5, "MEEK half of a SHY one's (towards 0)", () -> {
            due("1", Check.of("c041;").coroutine(0, 8), 100);
            due("3", Check.of("c043;").coroutine(0, 8), 99);
            due("9", Check.of("c049;").coroutine(0, 8), 96);
        });
        CHECK.says(5, "(counted with AGE): WEIGHT is told without it", () -> {
            StepMachines x = Check.of("p0a0a0;c019;c015;w1;l02;");
            due("age", x.coroutine(1, 4), 2);
            due("weight", x.coroutine(1, 8), 105);
        });
    }

    private static void framesTold() {
        CHECK.says(6, "-1 no such COROUTINE", () -> {
            StepMachines x = Check.of("c000;");
            for (int c : new int[] {-1, 1, 8, MIN, MAX}) {
                due("frame of " + c, x.frame(c, 0, 0), -1);
            }
        });
        CHECK.says(6, "-1 no such FRAME; FRAMES (6 at most)", () -> {
            StepMachines x = Check.of("p0d1;p1d2;p2d3;p3d4;p4y0d0;c000;n000;");
            for (int i : new int[] {-1, 5, MIN, MAX}) {
                due("frame " + i, x.frame(0, i, 0), -1);
            }
            for (int i = 0; i < 5; i++) {
                due("frame " + i, x.frame(0, i, 0), i);
            }
            x = Check.of("p0a1d1;p1d2;p2d3;p3d4;p4d0;c000;n000;");
            due("a seventh", x.coroutine(0, 0), 7);
            x = Check.of("p0d1;p1d2;p2d3;p3d4;p4d0y0;c000;p0y0;n000;");
            due("six", x.coroutine(0, 9), 6);
            due("the sixth", x.frame(0, 5, 0), 0);
            due("a seventh", x.frame(0, 6, 0), -1);
        });
        CHECK.says(6, "-1 of one ENDED (it has no FRAME)", () -> {
            for (int state = 6; state < 9; state++) {
                due("frame", Check.of(IN_STATE[state]).frame(0, 0, 0), -1);
            }
        });
        CHECK.says(6, "-1 what (0 .. 4)", () -> {
            StepMachines x = Check.of("c000;");
            for (int what : new int[] {-1, 5, MIN, MAX}) {
                due("what " + what, x.frame(0, 0, what), -1);
            }
        });
        CHECK.says(6, "COUNT (0 at first), FINISHING or not (at first), HELD: none (at first)", () -> {
            StepMachines x = Check.of("p2y0;c200;");
            int[] wants = {2, 0, 0, 0, 0};
            for (int what = 0; what < wants.length; what++) {
                due("what " + what, x.frame(0, 0, what), wants[what]);
            }
        });
        CHECK.says(6, "10 and the CODE a FAULT (CODE 0 .. 9)", () -> {
            for (int code = 0; code < 10; code++) {
                StepMachines x = Check.of("p0t" + code + "fy0;c000;n000;");
                due("held", x.frame(0, 0, 4), 10 + code);
                due("finishing", x.frame(0, 0, 3), 1);
                due("state", x.coroutine(0, 0), 2);
            }
        });
        CHECK.says(6, "of its PROGRAM (as that was when the FRAME came)", () -> {
            StepMachines x = Check.of("p0y1y2;c000;n000;p0;");
            due("program 0 has no steps", x.program(0, -1, 0), 0);
            due("its frame goes on", x.send(0, 0), 2);
            due("as it was", x.coroutine(0, 2), 2);
            x = Check.of("p0y1;c000;p0y2;n000;");
            due("came with the coroutine", x.coroutine(0, 2), 1);
        });
        CHECK.says(6, "its STEP's number: behind the last it is how many STEPS there are", () -> {
            StepMachines x = Check.of("p0y1y2;c000;n000;n000;");
            due("step", x.frame(0, 0, 1), 2);
            due("paused", x.coroutine(0, 0), 2);
        });
    }

    private static void causesTold() {
        CHECK.says(7, "-1 no such COROUTINE", () -> {
            StepMachines x = Check.of("p0t4;c000;n000;");
            for (int c : new int[] {-1, 1, MIN, MAX}) {
                due("cause of " + c, x.cause(c, 0), -1);
            }
            due("its own", x.cause(0, 0), 4);
        });
        CHECK.says(7, "-1 (no such FAULT, too)", () -> {
            StepMachines x = Check.of("p0t4ft5;c000;n000;");
            for (int i : new int[] {-1, 2, MIN, MAX}) {
                due("fault " + i, x.cause(0, i), -1);
            }
            due("its own", x.cause(0, 0), 5);
            due("its cause", x.cause(0, 1), 4);
        });
        CHECK.says(7, "CAUSES of a FAULTY one: of others no FAULT", () -> {
            for (int state = 0; state < 9; state++) {
                due("state " + state, Check.of(IN_STATE[state]).cause(0, 0), state == 7 ? 0 : -1);
            }
            due("one held", Check.of("p0t4fy1;c000;n000;").cause(0, 0), -1);
        });
        CHECK.says(7, "CODE (0 .. 9)", () -> {
            for (int code = 0; code < 10; code++) {
                due("code", Check.of("p0t" + code + ";c000;n000;").cause(0, 0), code);
            }
        });
    }

    private static void channelsTold() {
        CHECK.says(8, "-1 no such CHANNEL (0 .. 2)", () -> {
            StepMachines x = new StepMachines();
            for (int ch : new int[] {-1, 3, MIN, MAX}) {
                due("channel " + ch, x.channel(ch, -1, 0), -1);
            }
            due("the last", x.channel(2, -1, 0), 0);
        });
        CHECK.says(8, "-1 (nobody there, too)", () -> {
            StepMachines x = Check.of("p0s1;c000;n000;");
            for (int i : new int[] {-2, 1, 8, MIN, MAX}) {
                due("at " + i, x.channel(1, i, 0), -1);
            }
            due("the first", x.channel(1, 0, 0), 0);
            due("getting", x.channel(1, 0, 1), -1);
            due("at another one", x.channel(0, 0, 0), -1);
        });
        CHECK.says(8, "-1 what (0, 1)", () -> {
            StepMachines x = Check.of("p0s1;c000;n000;");
            for (int what : new int[] {-1, 2, MIN, MAX}) {
                due("what " + what, x.channel(1, 0, what), -1);
            }
        });
        CHECK.says(8, "all eight on one, each in the order they came", () -> {
            StepMachines x = Check.of("p0g2;" + "c000;".repeat(8));
            Check.text(x, "n700;n000;n600;n100;n500;n200;n400;n300;");
            int[] wants = {7, 0, 6, 1, 5, 2, 4, 3};
            due("how many", x.channel(2, -1, 1), 8);
            for (int i = 0; i < 8; i++) {
                due("at " + i, x.channel(2, i, 1), wants[i]);
            }
            due("a ninth", x.channel(2, 8, 1), -1);
        });
        CHECK.says(8, "one that leaves and comes once more is the last", () -> {
            StepMachines x = Check.of("p0g0g0;p1s0;c000;c000;c100;n000;n100;n200;n000;");
            due("the first", x.channel(0, 0, 1), 1);
            due("the last", x.channel(0, 1, 1), 0);
            due("two", x.channel(0, -1, 1), 2);
        });
    }
}
