/** Promises 13 to 30: a test of its own for each sentence that names a boundary, told by hand. */
public final class EdgesInMindTest {
    private static final String[] IN_STATE = EdgesOfProgramsTest.IN_STATE;
    private static final int MIN = Integer.MIN_VALUE;
    private static final int MAX = Integer.MAX_VALUE;
    private static final long REFUSED = 1000000001L;
    /** 50 rounds' worth of steps, which leave ACC 40. */
    private static final String FIFTY = "a1a1a1a1r9";
    private static final String ENDLESS = "p0d1r9;p1d2r9;p2d3r9;p3a0r9;";
    private static final Check CHECK = new Check();

    public static void main(String[] args) {
        roundsOn();
        roundsOnBehind999();
        ending();
        beingStuck();
        leastWidths();
        closingBestRefused();
        closingBest();
        sendingBestRefused();
        sendingBest();
        firstOuts();
        whichProgramRefused();
        whichProgram();
        programsAlikeRefused();
        programsAlike();
        twoRefused();
        twoOfThem();
        roundsLostRefused();
        roundsLost();
        shares();
        forgedStates();
        judgedRounds();
        runsByLotRefused();
        runsByLot();
        images();
        counts();
        CHECK.dueSentences(13, 30);
        CHECK.end("EdgesInMindTest");
    }

    private static void due(String call, long got, long want) {
        CHECK.due(call, got, want);
    }

    private static void roundsOn() {
        CHECK.says(13, "-1 no such COROUTINE", () -> {
            StepMachines x = Check.of("c000;");
            for (int c : new int[] {-1, 1, 8, MIN, MAX}) {
                due("then " + c, x.then(c, 0, 0), -1);
            }
        });
        CHECK.says(13, "-1 n ROUNDS on (0 .. 60)", () -> {
            StepMachines x = Check.of("c000;");
            for (int n : new int[] {-1, 61, MIN, MAX}) {
                due("then " + n, x.then(0, n, 0), -1);
            }
            due("0", x.then(0, 0, 0), 0);
            due("60", x.then(0, 60, 0), 6);
        });
        CHECK.says(13, "-1 what (0 .. 4)", () -> {
            StepMachines x = Check.of("c000;");
            for (int what : new int[] {-1, 5, MIN, MAX}) {
                due("what " + what, x.then(0, 0, what), -1);
            }
        });
        CHECK.says(13, "n ROUNDS on: 0 is now", () -> {
            for (int state = 0; state < 9; state++) {
                StepMachines x = Check.of(IN_STATE[state]);
                for (int what = 0; what < 5; what++) {
                    due("what " + what, x.then(0, 0, what), x.coroutine(0, what));
                }
            }
        });
        CHECK.says(13, "n ROUNDS on: 60 are made, and no more", () -> {
            StepMachines x = Check.of("p0" + FIFTY + "a1".repeat(9) + "y5a1;c000;");
            due("out behind 59", x.then(0, 59, 2), -4);
            due("out behind 60", x.then(0, 60, 2), 54);
            due("state behind 60", x.then(0, 60, 0), 2);
            due("outs behind 60", x.then(0, 60, 3), 1);
            due("acc behind 60", x.then(0, 60, 1), 49);
        });
        CHECK.says(13, "AGE of one: WIDTH counts in mind, too", () -> {
            StepMachines x = Check.of("p0" + FIFTY + ";c000;c000;c000;w1;");
            due("behind 2", x.then(2, 2, 4), 2);
            due("behind 3", x.then(2, 3, 4), 0);
            due("now", x.coroutine(2, 4), 0);
        });
        CHECK.says(13, "of one that waits, n ROUNDS on nothing changes", () -> {
            for (int state = 3; state < 5; state++) {
                StepMachines x = Check.of(IN_STATE[state]);
                for (int what = 0; what < 5; what++) {
                    due("what " + what, x.then(0, 60, what), x.coroutine(0, what));
                }
            }
        });
    }

    private static void roundsOnBehind999() {
        CHECK.says(13, "(ROUND may pass 999 there)", () -> {
            StepMachines x = Check.of("l60;".repeat(16));
            Check.text(x, "l39;p0" + FIFTY + "a1".repeat(9) + ";c000;");
            due("round", x.count(1), 999);
            due("then", x.then(0, 60, 0), 6);
            due("ends", x.ends(0), 60);
            due("stuck", x.stuck(0), 60);
            due("least width", x.leastWidth(60), 1);
            due("lost", x.lost(0, 7, 2, 0), 0);
            due("lots", x.lots(1, 1, 1), 1);
            due("round", x.count(1), 999);
        });
    }

    private static void ending() {
        CHECK.says(14, "-1 no such COROUTINE", () -> {
            StepMachines x = Check.of("c000;");
            for (int c : new int[] {-1, 1, 8, MIN, MAX}) {
                due("ends " + c, x.ends(c), -1);
            }
        });
        CHECK.says(14, "behind how many ROUNDS (0 .. 60): 0 of one ENDED", () -> {
            for (int state = 6; state < 9; state++) {
                due("state " + state, Check.of(IN_STATE[state]).ends(0), 0);
            }
            due("one step", Check.of("c000;").ends(0), 1);
        });
        CHECK.says(14, "behind how many ROUNDS (0 .. 60): the 60th, not the 61st", () -> {
            due("60th", Check.of("p0" + FIFTY + "a1".repeat(9) + ";c000;").ends(0), 60);
            due("61st", Check.of("p0" + FIFTY + "a1".repeat(10) + ";c000;").ends(0), -4);
        });
        CHECK.says(14, "-4 of one that never is", () -> {
            due("sending", Check.of(IN_STATE[3]).ends(0), -4);
            due("getting", Check.of(IN_STATE[4]).ends(0), -4);
            due("joining itself by another one", Check.of("p0j1;p1j0;c000;c100;").ends(0), -4);
        });
        CHECK.says(14, "one is ENDED: FAULTY and DONE alike, by another one's end, too", () -> {
            due("faulty", Check.of("p0a0t1;c000;").ends(0), 2);
            due("told", Check.of("p0j1;p1a0a0t1;c000;c100;").ends(0), 3);
        });
    }

    private static void beingStuck() {
        CHECK.says(15, "-1 what (0, 1)", () -> {
            StepMachines x = Check.of("c000;");
            for (int what : new int[] {-1, 2, MIN, MAX}) {
                due("what " + what, x.stuck(what), -1);
            }
        });
        CHECK.says(15, "nobody is NEW, READY or PAUSED: 0 ROUNDS, of nobody, too", () -> {
            due("no coroutines", new StepMachines().stuck(0), 0);
            due("who", new StepMachines().stuck(1), 0);
            for (int state = 0; state < 5; state++) {
                StepMachines x = Check.of(IN_STATE[state]);
                due("state " + state, x.stuck(0), state < 3 ? 1 : 0);
                due("who", x.stuck(1), state < 3 ? 0 : 1);
            }
        });
        CHECK.says(15, "behind how many (0 .. 60): the 60th, not the 61st", () -> {
            due("60th", Check.of("p0" + FIFTY + "a1".repeat(9) + ";c000;").stuck(0), 60);
            StepMachines x = Check.of("p0" + FIFTY + "a1".repeat(10) + ";c000;");
            due("61st", x.stuck(0), -4);
            due("who", x.stuck(1), -4);
        });
        CHECK.says(15, "WHO is not ENDED then (bits): none, all eight", () -> {
            due("none", Check.of("c000;".repeat(8)).stuck(1), 0);
            StepMachines x = Check.of("p0g0;" + "c000;".repeat(8));
            due("all", x.stuck(1), 255);
            due("behind one", x.stuck(0), 1);
        });
        CHECK.says(15, "WHO: those that are ENDED are not", () -> {
            due("who", Check.of("p0g0;p1;c000;c100;c000;c100;").stuck(1), 5);
        });
    }

    private static void leastWidths() {
        CHECK.says(16, "-1 n ROUNDS (0 .. 60)", () -> {
            StepMachines x = Check.of("c000;");
            for (int n : new int[] {-1, 61, MIN, MAX}) {
                due("least width " + n, x.leastWidth(n), -1);
            }
            due("60", x.leastWidth(60), 1);
        });
        CHECK.says(16, "n 0: all are ENDED now, or -4", () -> {
            due("no coroutines", new StepMachines().leastWidth(0), 1);
            due("all ended", Check.of("c000;x0;").leastWidth(0), 1);
            due("one not", Check.of("c000;c000;x0;").leastWidth(0), -4);
        });
        CHECK.says(16, "LEAST WIDTH (1 .. 8): each one", () -> {
            for (int many = 1; many <= 8; many++) {
                StepMachines x = Check.of("c000;".repeat(many) + "w3;");
                due("of " + many + " in one round", x.leastWidth(1), many);
                due("of " + many + " in two rounds", x.leastWidth(2), (many + 1) / 2);
                due("of " + many + " in eight rounds", x.leastWidth(8), 1);
                due("width stays", x.count(2), 3);
            }
        });
        CHECK.says(16, "-4 with none", () -> {
            due("too few rounds", Check.of("p0a1;c000;").leastWidth(1), -4);
            due("one that waits", Check.of("p0g0;c000;").leastWidth(60), -4);
            due("61 steps", Check.of("p0" + FIFTY + "a1".repeat(10) + ";c000;").leastWidth(60), -4);
            due("60 steps", Check.of("p0" + FIFTY + "a1".repeat(9) + ";c000;").leastWidth(60), 1);
        });
    }

    private static void closingBestRefused() {
        CHECK.says(17, "-1 n ROUNDS (0 .. 40)", () -> {
            StepMachines x = Check.of("c000;");
            for (int n : new int[] {-1, 41, MIN, MAX}) {
                due("close best " + n, x.closeBest(n), -1);
            }
            due("0", x.closeBest(0), -4);
            due("40", x.closeBest(40), -4);
        });
        CHECK.says(17, "-4 none: no COROUTINES, all ENDED", () -> {
            due("no coroutines", new StepMachines().closeBest(40), -4);
            due("all ended", Check.of("c000;c000;x0;n100;").closeBest(40), -4);
        });
    }

    private static void closingBest() {
        CHECK.says(17, "more than without (of the others alike)", () -> {
            due("both are done in time", Check.of("c000;c000;").closeBest(1), -4);
            due("one that is done itself does not count", Check.of("c000;c000;w1;").closeBest(1), 0);
            due("two rounds", Check.of("c000;c000;w1;").closeBest(2), -4);
        });
        CHECK.says(17, "lets most others be DONE, not ENDED otherwise", () -> {
            due("faulty", Check.of("p0t1;c000;c000;w1;").closeBest(1), -4);
            due("joining", Check.of("p0y0;p1j0;c000;c100;n000;n100;").closeBest(0), -4);
        });
        CHECK.says(17, "n ROUNDS (0 .. 40): DONE behind the 40th, not the 41st", () -> {
            String forty = "p1a0a0a0a0r6a0a0a0a0;";
            due("40th", Check.of("p0" + FIFTY + ";" + forty + "c000;c100;w1;").closeBest(40), 0);
            due("too few rounds", Check.of("p0" + FIFTY + ";" + forty + "c000;c100;w1;").closeBest(39), -4);
            String more = "p1a0a0a0a0r6a0a0a0a0a0;";
            due("41st", Check.of("p0" + FIFTY + ";" + more + "c000;c100;w1;").closeBest(40), -4);
        });
        CHECK.says(17, "the one (not ENDED)", () -> {
            StepMachines x = Check.of("p0y0;p1;c000;c100;c100;w1;x0;");
            due("of the others the least", x.closeBest(1), 1);
        });
        CHECK.says(17, "of several the least", () -> {
            due("of eight", Check.of("c000;".repeat(8) + "w7;").closeBest(1), 0);
            due("either lets 3 be done", Check.of("p0y0y0;c000;c019;c100;c100;w2;").closeBest(2), 0);
            due("the least lets none", Check.of("p0y0y0;c029;c019;c100;w1;").closeBest(1), 1);
        });
        CHECK.says(17, "one that waits can be closed, too", () -> {
            // 0 and 1 get; 2 sends once: with 0 closed 1 has it and is done, with 1 closed 0 is.
            StepMachines x = Check.of("p0g0t1;p1g0;p2s0;c000;c100;c200;n000;n100;");
            due("the one that would throw", x.closeBest(9), 0);
        });
    }

    private static void sendingBestRefused() {
        CHECK.says(18, "-1 no such COROUTINE", () -> {
            StepMachines x = Check.of("c000;");
            for (int c : new int[] {-1, 1, 8, MIN, MAX}) {
                due("send best " + c, x.sendBest(c, 0), -1);
            }
        });
        CHECK.says(18, "-1 what (0, 1)", () -> {
            StepMachines x = Check.of("c000;");
            for (int what : new int[] {-1, 2, MIN, MAX}) {
                due("what " + what, x.sendBest(0, what), -1);
            }
        });
        CHECK.says(18, "-3 it can't be sent to", () -> {
            for (int state = 0; state < 9; state++) {
                StepMachines x = Check.of(IN_STATE[state]);
                due("v in state " + state, x.sendBest(0, 0), state < 3 ? 0 : -3);
                due("out in state " + state, x.sendBest(0, 1), state > 2 ? -3 : state == 2 ? 0 : -4);
            }
        });
        CHECK.says(18, "-1 goes ahead of -3", () -> due("what", Check.of(IN_STATE[8]).sendBest(0, 2), -1));
    }

    private static void dueBest(String told, int v, int out) {
        StepMachines x = Check.of(told);
        due(told + " v", x.sendBest(0, 0), v);
        due(told + " out", x.sendBest(0, 1), out);
    }

    private static void sendingBest() {
        CHECK.says(18, "v (0 .. 20): not more than 20", () -> {
            dueBest("p0y0y0;c000;n000;", 20, 20);
            dueBest("p0y0y0;c019;n000;", 20, 29);
        });
        CHECK.says(18, "v (0 .. 20): 0, too", () -> {
            // What is sent is nothing times 0; a 9 goes on top of it, or less by a SHY one.
            dueBest("p0y0z1m0y9;c000;n000;", 0, 9);
            dueBest("p0y0z1y1y9;c000;n000;", 20, 21);
            dueBest("p0y0z2m0y0y9;c000;n000;", 0, 9);
        });
        CHECK.says(18, "of several the least", () -> {
            dueBest("p0y0y1;c020;n000;", 19, 10);
            dueBest("p0y0y0;c020;n000;", 20, 10);
            dueBest("p0a9m2y0y0;c050;n000;", 20, 20);
            dueBest("p0a9m2a2y0y0;c050;n000;", 0, 20);
            dueBest("p0y0m0y5;c000;n000;", 0, 5);
        });
        CHECK.says(18, "makes OUT of it greatest: modulo 1000", () -> {
            dueBest("p0y0m9m6y0;c000;n000;", 18, 972);
            dueBest("p0y0m9m6y9y0;c000;n000;", 18, 981);
        });
        CHECK.says(18, "if PAUSED: a NEW one is sent all alike", () -> {
            dueBest("p0a1y4;c000;", 0, 5);
            dueBest("p0a1a2y4;c000;l01;", 0, 7);
        });
        CHECK.says(18, "OUT (-4 at first) if it yields nothing", () -> dueBest("p0a1;c000;", 0, -4));
        CHECK.says(18, "OUT (the last it yielded) if it yields nothing more", () -> dueBest("p0y6;c000;n000;", 0, 6));
        CHECK.says(18, "40 at most", () -> {
            dueBest("p0y3d1y9;p1a0a0a0r8a0;c000;n000;", 20, 29);
            dueBest("p0y3d1y9;p1a0a0a0r8a0a0;c000;n000;", 0, 3);
        });
    }

    private static void firstOuts() {
        CHECK.says(19, "-4 nobody", () -> {
            due("no coroutines", new StepMachines().firstOut(), -4);
            due("nobody yields", Check.of("p0a1;c000;").firstOut(), -4);
            due("nobody can go", Check.of("p0g0y0;c000;n000;").firstOut(), -4);
            due("all ended", Check.of("p0y0;c000;x0;").firstOut(), -4);
        });
        CHECK.says(19, "in the next 60 ROUNDS: the 60th, not the 61st", () -> {
            due("60th", Check.of("p0" + FIFTY + "a1".repeat(9) + "y1;c000;").firstOut(), 0);
            due("61st", Check.of("p0" + FIFTY + "a1".repeat(10) + "y1;c000;").firstOut(), -4);
        });
        CHECK.says(19, "of several in one ROUND the least", () -> {
            due("by number, not by who went first", Check.of("p0y1;c020;c019;").firstOut(), 0);
            due("all eight", Check.of("p0y1;p1a0y1;c100;" + "c000;".repeat(7)).firstOut(), 1);
        });
        CHECK.says(19, "of all: who is in the first ROUND", () -> {
            due("the last", Check.of("p0y1;p1a0y1;" + "c100;".repeat(7) + "c000;").firstOut(), 7);
            due("one a round", Check.of("p0y1;c000;c019;w1;").firstOut(), 1);
        });
        CHECK.says(19, "a yield counts, though OUTS is 999 already", () -> {
            StepMachines x = Check.of("p0d1r9;p1d2r9;p2d3r9;p3y0r9;c000;");
            Check.onShelf(x, 0, 0, "n000;".repeat(20).chars().toArray());
            for (int i = 0; i < 50; i++) {
                x.text(0);
            }
            due("outs", x.coroutine(0, 3), 999);
            due("first out", x.firstOut(), 0);
        });
        CHECK.says(19, "who yields: one that has yielded before does not", () -> {
            due("the other", Check.of("p0y1;p1a0a0y1;c000;c100;n000;").firstOut(), 1);
            due("nobody", Check.of("p0y1;c000;n000;").firstOut(), -4);
        });
    }

    private static int whatProgram(StepMachines x, int sort, int... told) {
        Check.onShelf(x, 3, sort, told);
        return x.whatProgram(3);
    }

    private static int[] all(int many, int v) {
        int[] told = new int[many];
        java.util.Arrays.fill(told, v);
        return told;
    }

    private static void whichProgramRefused() {
        CHECK.says(20, "-1 no such SHELF", () -> {
            for (int d : new int[] {-1, 8, MIN, MAX}) {
                due("shelf " + d, new StepMachines().whatProgram(d), -1);
            }
        });
        CHECK.says(20, "-11, -12 (no ROW)", () -> {
            StepMachines x = new StepMachines();
            due("nothing held", x.whatProgram(0), -11);
            x.keep(0, 1, 0, 0);
            due("a manner", x.whatProgram(0), -12);
        });
        CHECK.says(20, "-2 (if there is room), behind -1, -11, -12", () -> {
            StepMachines x = Check.of("c000;".repeat(8));
            x.keep(1, 1, 0, 0);
            due("no such shelf", x.whatProgram(8), -1);
            due("nothing held", x.whatProgram(0), -11);
            due("a manner", x.whatProgram(1), -12);
            due("no room", x.whatProgram(7), -2);
            due("no room, nothing told", whatProgram(x, 0), -2);
            due("room for one", whatProgram(Check.of("c000;".repeat(7)), 0), 31);
        });
    }

    private static void whichProgram() {
        CHECK.says(20, "a ROW of 0 elements: by all of them all of it is so", () -> {
            for (int sort = 0; sort < 3; sort++) {
                due("sort " + sort, whatProgram(new StepMachines(), sort), 31);
            }
        });
        CHECK.says(20, "a ROW of 100 elements", () -> {
            StepMachines x = Check.of("p0d1r9;p1y3r9;");
            int[] told = all(100, 3);
            due("all of it", whatProgram(x, 1, told), 1);
            told[99] = 4;
            due("not the last", whatProgram(x, 1, told), 0);
            due("ten", whatProgram(x, 1, all(10, 3)), 3);
            due("eleven", whatProgram(x, 1, all(11, 3)), 1);
        });
        CHECK.says(20, "(the least number of the ROW's kind is skipped)", () -> {
            int[] least = {-128, -32768, MIN};
            for (int sort = 0; sort < 3; sort++) {
                StepMachines x = Check.of("p1y5y6;p2y9y6;");
                due("sort " + sort, whatProgram(x, sort, least[sort], 6), 6);
                due("one more than that", whatProgram(x, sort, least[sort] + 1, 6), 0);
                due("skipped at the end", whatProgram(x, sort, 5, least[sort]), 2);
            }
        });
        CHECK.says(20, "it is sent 0 for a skipped number, too, and must be PAUSED behind it", () -> {
            StepMachines x = Check.of("p0y5;p1y5y6;p2y5t1;p3y5g0;p4" + FIFTY + "y5;");
            due("both skipped", whatProgram(x, 0, -128, -128), 2);
            due("one", whatProgram(x, 0, -128), 15);
        });
        CHECK.says(20, "a new COROUTINE (PLAIN), sent 0 again and again", () -> {
            due("by acc", whatProgram(Check.of("p0a9y0y0;"), 0, 9, 0), 1);
        });
        CHECK.says(20, "besides all there is; nothing changes", () -> {
            StepMachines x = Check.of("p0a4s1;c000;n000;p1g1y0;p2g1y1;p3j0y0;p4j1y0;p0j0;");
            due("who gets of it", whatProgram(x, 0, 4), 2);
            due("each by itself", whatProgram(x, 0, 5), 4);
            due("who sends", x.channel(1, 0, 0), 0);
            due("how many there are", x.count(0), 1);
        });
    }

    private static void programsAlikeRefused() {
        CHECK.says(21, "-1 either", () -> {
            StepMachines x = new StepMachines();
            for (int p : new int[] {-1, 5, MIN, MAX}) {
                due("the one " + p, x.alike(p, 0, 0), -1);
                due("the other " + p, x.alike(0, p, 0), -1);
            }
            due("0 and 4", x.alike(0, 4, 0), 1);
        });
        CHECK.says(21, "-1 one twice", () -> {
            for (int p = 0; p < 5; p++) {
                due("twice " + p, new StepMachines().alike(p, p, 1), -1);
            }
        });
        CHECK.says(21, "-1 n (0 .. 20)", () -> {
            StepMachines x = new StepMachines();
            for (int n : new int[] {-1, 21, MIN, MAX}) {
                due("n " + n, x.alike(0, 1, n), -1);
            }
            due("20", x.alike(0, 1, 20), 1);
        });
        CHECK.says(21, "-2 (likewise: if there is room), behind -1", () -> {
            StepMachines x = Check.of("c000;".repeat(8));
            due("no room", x.alike(0, 1, 0), -2);
            due("no such one", x.alike(0, 5, 0), -1);
            due("one twice", x.alike(0, 0, 0), -1);
            due("n", x.alike(0, 1, 21), -1);
            due("room for one", Check.of("c000;".repeat(7)).alike(0, 1, 20), 1);
        });
    }

    private static void programsAlike() {
        CHECK.says(21, "n (0 .. 20): none, the 20th, not the 21st", () -> {
            StepMachines x = Check.of("p0y0r9" + "y0".repeat(9) + "y1;p1y0r9" + "y0".repeat(10) + ";");
            due("19", x.alike(0, 1, 19), 1);
            due("20", x.alike(0, 1, 20), 0);
            x = Check.of("p0y0r9" + "y0".repeat(10) + "y1;p1y0r9" + "y0".repeat(11) + ";");
            due("20 of 21", x.alike(0, 1, 20), 1);
            x = Check.of("p0y0;p1y1;");
            due("0", x.alike(0, 1, 0), 1);
            due("1", x.alike(0, 1, 1), 0);
        });
        CHECK.says(21, "(as long as they can be made)", () -> {
            due("done both", Check.of("p0y1;p1a0y1;").alike(0, 1, 20), 1);
            due("faulty both, by other faults", Check.of("p0t1;p1t2;").alike(0, 1, 20), 1);
            due("getting both", Check.of("p0g1;p1g2y0;").alike(0, 1, 20), 1);
        });
        CHECK.says(21, "alike STATE and OUT", () -> {
            due("state alone is other", Check.of("p0y1;p1y1t1;").alike(0, 1, 2), 0);
            due("out alone is other", Check.of("p0y1;p1y2;").alike(0, 1, 1), 0);
            due("none out and 0 out", Check.of("p0g0;p1s0;").alike(0, 1, 1), 0);
            due("acc alone is other", Check.of("p0y1a1;p1y1a2;").alike(0, 1, 20), 1);
        });
        CHECK.says(21, "each by itself, as if the other weren't there", () -> {
            StepMachines x = Check.of("p0g0y0;p1g0y0;p2a3s0;c200;n000;");
            due("both get what one sends", x.alike(0, 1, 1), 1);
            x = Check.of("p0s0;p1g0;");
            due("they do not meet", x.alike(0, 1, 1), 0);
            due("nothing changes", x.count(0), 0);
        });
    }

    private static void twoRefused() {
        CHECK.says(22, "-1 either (no such one)", () -> {
            StepMachines x = Check.of("c000;c000;");
            for (int c : new int[] {-1, 2, 8, MIN, MAX}) {
                due("the one " + c, x.two(c, 0, 0), -1);
                due("the other " + c, x.two(0, c, 0), -1);
            }
        });
        CHECK.says(22, "-1 one twice", () -> due("twice", Check.of("c000;c000;").two(1, 1, 0), -1));
        CHECK.says(22, "-1 n (0 .. 40)", () -> {
            StepMachines x = Check.of("c000;c000;");
            for (int n : new int[] {-1, 41, MIN, MAX}) {
                due("n " + n, x.two(0, 1, n), -1);
            }
            due("0", x.two(0, 1, 0), 0);
            due("40", x.two(0, 1, 40), 0);
        });
        CHECK.says(22, "-3 either is ENDED, behind -1", () -> {
            for (int state = 6; state < 9; state++) {
                StepMachines x = Check.of(IN_STATE[state] + "c000;");
                due("the one", x.two(0, 1, 0), -3);
                due("the other", x.two(1, 0, 0), -3);
                due("n", x.two(1, 0, 41), -1);
                due("no such one", x.two(0, 2, 0), -1);
                due("one twice", x.two(0, 0, 0), -1);
            }
            StepMachines x = Check.of(IN_STATE[5] + "p0g0;c000;n200;");
            due("those that wait are not", x.two(0, 2, 0), 0);
        });
    }

    private static void twoOfThem() {
        CHECK.says(22, "n ROUNDS (0 .. 40): what is behind the 40th, not the 41st", () -> {
            String faulty = "p1g0t1;c000;c100;";
            StepMachines x = Check.of("p0a0a0a0a0r6a0a0a0s0;" + faulty);
            due("40", x.two(0, 1, 40), 10);
            due("the other way round", x.two(1, 0, 40), 1);
            due("39", x.two(0, 1, 39), 0);
            x = Check.of("p0a0a0a0a0r6a0a0a0a0s0;" + faulty);
            due("one later", x.two(0, 1, 40), 0);
        });
        CHECK.says(22, "2 less if it was CLOSED, 6 less if the other one is FAULTY then: no more is not enough", () -> {
            // Left: 6 less. Closed: 2 less, and what it would have yielded is gone.
            due("3 by 4", Check.of("p0s0y1y1y1;p1g0t1;c000;c100;").two(0, 1, 9), 10);
            due("4 by 4", Check.of("p0s0y1y1y1y1;p1g0t1;c000;c100;").two(0, 1, 9), 0);
        });
        CHECK.says(22, "6 less if the other one is FAULTY then: not for being FAULTY itself", () -> {
            due("itself", Check.of("p0t1;p1;c000;c100;").two(0, 1, 9), 0);
            due("the other in any case", Check.of("p0y0t1;p1y0;c000;c100;n000;").two(1, 0, 9), 0);
        });
        CHECK.says(22, "neither has more by another choice alone: what they have may be below 0", () -> {
            // 1 throws left or closed, so 0 has 6 less; closed, too, it has 8 less.
            StepMachines x = Check.of("p0s0ft1;p1g0t1;c100;c000;");
            due("1 is closed", x.two(0, 1, 9), 1);
            due("told the other way round, 0 is closed", x.two(1, 0, 9), 1);
        });
        CHECK.says(22, "the first pair", () -> {
            // Both throw if both are left; either may be closed: 1 comes ahead of 10.
            StepMachines x = Check.of("p0s0g1t1;p1g0s1t1;c000;c100;");
            due("the other", x.two(0, 1, 9), 1);
            due("the other, the other way round", x.two(1, 0, 9), 1);
            due("neither yet", x.two(0, 1, 2), 0);
        });
        CHECK.says(22, "each CLOSED now: those that JOIN it are told, and may be ENDED ahead of the other choice", () -> {
            StepMachines x = Check.of("p0y0;p1j0;c000;c100;n000;n100;");
            due("neither", x.two(0, 1, 0), 0);
            due("neither", x.two(1, 0, 40), 0);
            due("nothing changes", x.count(3), 0);
        });
    }

    private static void dueLost(StepMachines x, int n, int t, long above, long below) {
        due("lost " + n + " " + t + " above", x.lost(0, n, t, 0), above);
        due("lost " + n + " " + t + " below", x.lost(0, n, t, 1), below);
    }

    private static void roundsLostRefused() {
        CHECK.says(23, "Refused as told: -1 no such one (1000000001)", () -> {
            StepMachines x = Check.of("c000;");
            for (int c : new int[] {-1, 1, 8, MIN, MAX}) {
                due("coroutine " + c, x.lost(c, 0, 2, 0), REFUSED);
            }
        });
        CHECK.says(23, "Refused: n ROUNDS (0 .. 7)", () -> {
            StepMachines x = Check.of("c000;");
            for (int n : new int[] {-1, 8, MIN, MAX}) {
                due("n " + n, x.lost(0, n, 2, 0), REFUSED);
            }
        });
        CHECK.says(23, "Refused: 1 in t (2 .. 20)", () -> {
            StepMachines x = Check.of("c000;");
            for (int t : new int[] {0, 1, 21, -2, MIN, MAX}) {
                due("t " + t, x.lost(0, 1, t, 0), REFUSED);
            }
        });
        CHECK.says(23, "Refused: part (0, 1)", () -> {
            StepMachines x = Check.of("c000;");
            for (int part : new int[] {-1, 2, MIN, MAX}) {
                due("part " + part, x.lost(0, 1, 2, part), REFUSED);
            }
        });
    }

    private static void roundsLost() {
        CHECK.says(23, "n 0: as it is now", () -> {
            for (int state = 0; state < 9; state++) {
                dueLost(Check.of(IN_STATE[state]), 0, 20, state > 5 ? 1 : 0, 1);
            }
        });
        CHECK.says(23, "n 7, t 2 and 20: the greatest", () -> {
            dueLost(Check.of("c000;"), 7, 2, 127, 128);
            dueLost(Check.of("c000;"), 7, 20, 1279999999L, 1280000000L);
            dueLost(Check.of("p0a1a1a1a1a1a1;c000;"), 7, 20, 893871739L, 1280000000L);
        });
        CHECK.says(23, "ENDED behind these: by the 7th, not by an 8th", () -> {
            dueLost(Check.of("p0a1a1a1a1a1a1;c000;"), 7, 2, 1, 128);
            dueLost(Check.of("p0a1a1a1a1a1a1a1;c000;"), 7, 2, 0, 1);
            dueLost(Check.of("p0a1a1a1a1a1a1;c000;"), 6, 2, 0, 1);
        });
        CHECK.says(23, "a fraction in least terms", () -> {
            dueLost(Check.of("p0a1;c000;"), 2, 4, 9, 16);
            dueLost(Check.of("p0a1;c000;"), 3, 4, 27, 32);
            dueLost(Check.of("p0a1;c000;"), 2, 20, 361, 400);
            dueLost(Check.of("p0g0;c000;"), 7, 20, 0, 1);
        });
        CHECK.says(23, "lets nobody go (AGES of those who could are 1 more all the same)", () -> {
            // Lost ahead of the first, 2 has age 2 when 0 has got what it waits for, and goes first.
            StepMachines x = Check.of("p0g0;p1s0;p2y0y0y0y0;c011;c100;c200;w1;n000;");
            dueLost(x, 1, 2, 0, 1);
            dueLost(x, 2, 2, 1, 4);
            dueLost(x, 3, 2, 3, 8);
            dueLost(x, 3, 3, 16, 27);
        });
        CHECK.says(23, "each of n ROUNDS by itself: nothing changes", () -> {
            StepMachines x = Check.of("p0y0;c000;c000;");
            dueLost(x, 7, 2, 15, 16);
            due("round", x.count(1), 0);
            due("age", x.coroutine(1, 4), 0);
        });
    }

    private static void dueShare(String told, long above, long below) {
        due(told + " above", Check.of(told).share(0), above);
        due(told + " below", Check.of(told).share(1), below);
    }

    private static void shares() {
        CHECK.says(24, "Refused as told: -1 part (1000000001)", () -> {
            for (int part : new int[] {-1, 2, MIN, MAX}) {
                due("part " + part, Check.of("c000;").share(part), REFUSED);
                due("part " + part, new StepMachines().share(part), REFUSED);
            }
        });
        CHECK.says(24, "(0 by 1 of none)", () -> {
            due("above", new StepMachines().share(0), 0);
            due("below", new StepMachines().share(1), 1);
        });
        CHECK.says(24, "in least terms: none, all, and between", () -> {
            String eight = "c000;".repeat(8);
            dueShare(eight, 0, 1);
            dueShare(eight + "x0;", 1, 8);
            dueShare(eight + "x0;x1;", 1, 4);
            dueShare(eight + "x0;x1;x2;", 3, 8);
            dueShare(eight + "x0;x1;x2;x3;", 1, 2);
            dueShare(eight + "x0;x1;x2;x3;x4;x7;", 3, 4);
            dueShare(eight + "l01;", 1, 1);
            dueShare("c000;x0;", 1, 1);
            dueShare("c000;c000;c000;x1;", 1, 3);
        });
        CHECK.says(24, "ENDED ones: DONE, FAULTY, CLOSED alike", () -> {
            dueShare("p0;p1t1;c000;c100;c000;c000;c000;x2;n000;n100;", 3, 5);
        });
    }

    private static int forged(StepMachines x, int sort, int... told) {
        Check.onShelf(x, 3, sort, told);
        return x.forged(3);
    }

    private static void forgedStates() {
        CHECK.says(25, "-1, -11, -12", () -> {
            StepMachines x = new StepMachines();
            for (int d : new int[] {-1, 8, MIN, MAX}) {
                due("shelf " + d, x.forged(d), -1);
            }
            due("nothing held", x.forged(0), -11);
            x.keep(0, 1, 0, 0);
            due("a manner", x.forged(0), -12);
        });
        CHECK.says(25, "a ROW of 0 elements: -4", () -> {
            due("none", forged(new StepMachines(), 0), -4);
            due("none of one", forged(Check.of("c000;"), 2), -4);
        });
        CHECK.says(25, "the first that is not so (no such one, too)", () -> {
            due("none there", forged(new StepMachines(), 0, 0), 0);
            due("no second one", forged(Check.of("c000;"), 1, 0, 0), 1);
            due("no ninth one", forged(Check.of("c000;".repeat(8)), 2, all(100, 0)), 8);
            due("all eight", forged(Check.of("c000;".repeat(8)), 2, all(8, 0)), -4);
            due("fewer than there are", forged(Check.of("c000;".repeat(8)), 0, all(3, 0)), -4);
            due("the first", forged(Check.of("c000;c000;"), 0, 1, 1), 0);
        });
        CHECK.says(25, "STATES 0 .. 8, nothing is skipped", () -> {
            int[] least = {-128, -32768, MIN};
            for (int state = 0; state < 9; state++) {
                StepMachines x = Check.of(IN_STATE[state]);
                for (int told = -1; told < 10; told++) {
                    due("told " + told, forged(x, 0, told), told == state ? -4 : 0);
                }
                for (int sort = 0; sort < 3; sort++) {
                    due("the least number", forged(x, sort, least[sort]), 0);
                }
            }
        });
    }

    private static int judge(StepMachines x, int sort, int... told) {
        Check.onShelf(x, 3, sort, told);
        return x.judge(3);
    }

    private static void judgedRounds() {
        CHECK.says(26, "-1, -11, -12", () -> {
            StepMachines x = new StepMachines();
            for (int d : new int[] {-1, 8, MIN, MAX}) {
                due("shelf " + d, x.judge(d), -1);
            }
            due("nothing held", x.judge(0), -11);
            x.keep(0, 1, 0, 0);
            due("a manner", x.judge(0), -12);
        });
        CHECK.says(26, "a ROW of 0 elements: -4", () -> due("none", judge(Check.of("c000;"), 0), -4));
        CHECK.says(26, "behind 0, 1, .. ROUNDS: 0 is now", () -> {
            due("now", judge(Check.of("c000;"), 0, 0), -4);
            due("not now", judge(Check.of("c000;"), 0, 1), 0);
            due("ended now", judge(Check.of("c000;x0;"), 0, 1, 1), -4);
            due("one on", judge(Check.of("c000;"), 0, 0, 1), -4);
            due("not one on", judge(Check.of("c000;"), 0, 0, 0), 1);
            due("no coroutines", judge(new StepMachines(), 0, 0, 0, 0), -4);
        });
        CHECK.says(26, "a ROW of 100 elements: 99 ROUNDS on", () -> {
            // 50 rounds, 47 more and the end are 98: what is told 98th is the first 1.
            StepMachines x = Check.of("p0d1d2;p1" + FIFTY + ";p2a1a1a1r9a1a1;c000;");
            int[] told = new int[100];
            int first = judge(x, 0, told);
            due("it ends", first, 97);
            java.util.Arrays.fill(told, first, 100, 1);
            due("so it is", judge(x, 0, told), -4);
            told[99] = 0;
            due("the last", judge(x, 0, told), 99);
            due("now", x.count(1) + x.count(3), 0);
        });
        CHECK.says(26, "(skipped likewise): the least number of the ROW's kind", () -> {
            int[] least = {-128, -32768, MIN};
            for (int sort = 0; sort < 3; sort++) {
                StepMachines x = Check.of("p0a1;c000;");
                due("skipped", judge(x, sort, least[sort], least[sort], 1), -4);
                due("the rounds go on", judge(x, sort, least[sort], least[sort], 0), 2);
                due("one more than that", judge(x, sort, least[sort] + 1), 0);
                due("of another kind", judge(x, sort, 0, least[(sort + 2) % 3]), sort == 0 ? -4 : 1);
            }
        });
    }

    private static void runsByLotRefused() {
        CHECK.says(27, "-1 n (1 .. 20)", () -> {
            for (int n : new int[] {0, 21, -1, MIN, MAX}) {
                due("n " + n, Check.of("c000;").lots(n, 1, 0), -1);
                due("n " + n + " of none", new StepMachines().lots(n, 1, 0), -1);
            }
            due("1", Check.of("c000;").lots(1, 1, 1), 1);
            due("20", Check.of("c000;").lots(20, 1, 1), 20);
        });
        CHECK.says(27, "-1 what (0, 1)", () -> {
            for (int what : new int[] {-1, 2, MIN, MAX}) {
                due("what " + what, Check.of("c000;").lots(1, 1, what), -1);
                due("what " + what + " of none", new StepMachines().lots(1, 1, what), -1);
            }
        });
        CHECK.says(27, "(without COROUTINES nothing is drawn: 0)", () -> {
            for (int z : new int[] {0, 1, -1, MIN, MAX}) {
                due("outs", new StepMachines().lots(20, z, 0), 0);
                due("ended", new StepMachines().lots(20, z, 1), 0);
            }
        });
    }

    private static void runsByLot() {
        int[] seeds = {0, 1, 7, -1, MAX, MIN};
        CHECK.says(27, "a DRAW below n: any seed, its sign's bit and what wraps around", () -> {
            // Who is sent to ends at once, nobody else does in 5 rounds: so many were drawn of eight.
            StepMachines x = Check.of("p0" + "a0".repeat(16) + ";" + "c000;".repeat(8));
            int[] once = {4, 6, 5, 4, 4, 4};
            int[] thrice = {14, 14, 14, 12, 12, 14};
            for (int i = 0; i < seeds.length; i++) {
                due("seed " + seeds[i], x.lots(1, seeds[i], 1), once[i]);
                due("seed " + seeds[i] + " three times", x.lots(3, seeds[i], 1), thrice[i]);
            }
            due("nothing changes", x.count(3), 0);
        });
        CHECK.says(27, "a COROUTINE by a DRAW below as many", () -> {
            StepMachines x = Check.of("p0" + "a0".repeat(16) + ";" + "c000;".repeat(3));
            int[] once = {3, 3, 3, 2, 2, 3};
            for (int i = 0; i < seeds.length; i++) {
                due("seed " + seeds[i], x.lots(1, seeds[i], 1), once[i]);
            }
            due("one alone", Check.of("p0" + "a0".repeat(16) + ";c000;").lots(9, 5, 1), 9);
        });
        CHECK.says(27, "sent a DRAW below 100", () -> {
            // Seed 7 draws 6, 74, 65, 90: the 90 a hundred times is 0 modulo 1000, and it ends.
            StepMachines x = Check.of("p0y0m5m5m2m2z1r9;c000;");
            due("outs", x.lots(1, 7, 0), 3);
            due("ended", x.lots(1, 7, 1), 1);
            // Seed 1 draws 58, 15, 27, 19, 86, 67; then it is sent 0, and 5 rounds are one too few.
            due("outs", x.lots(1, 1, 0), 6);
            due("ended", x.lots(1, 1, 1), 0);
        });
        CHECK.says(27, "sent, if it can be: both DRAWS are made each time", () -> {
            StepMachines x = Check.of("p0" + "a0".repeat(16) + ";p1g0;c100;" + "c000;".repeat(7) + "n000;");
            int[] once = {3, 6, 5, 3, 3, 3};
            for (int i = 0; i < seeds.length; i++) {
                due("seed " + seeds[i], x.lots(1, seeds[i], 1), once[i]);
            }
        });
        CHECK.says(27, "then 5 ROUNDS", () -> {
            due("6 by sending, the second and the fourth", Check.of("p0y0r9;c000;").lots(1, 1, 0), 8);
            StepMachines x = Check.of("p0a0a0a0a0;" + "c000;".repeat(7));
            due("the fifth step ends all", x.lots(1, 0, 1), 7);
            x = Check.of("p0a0a0a0a0a0;" + "c000;".repeat(7));
            due("a sixth ends none but those drawn", x.lots(1, 0, 1), 5);
            x = Check.of("p0a0a0a0a0;" + "c000;".repeat(8) + "w1;");
            due("one a round, two left: none of them", x.lots(1, 1, 1), 6);
        });
        CHECK.says(27, "OUTS of all more; ENDED ones: what was is taken off, or not", () -> {
            StepMachines x = Check.of("p0y0y0;p1y0;c000;c100;n000;n000;n000;x1;");
            due("all are ended", x.count(3), 3);
            due("no outs more", x.lots(5, 1, 0), 0);
            due("ended ones each time", x.lots(5, 1, 1), 10);
        });
    }

    private static void images() {
        CHECK.says(29, "-3 there is none", () -> {
            StepMachines x = Check.of("c000;l05;");
            due("restore", x.restore(), -3);
            due("nothing changes", x.count(0) + x.count(1), 6);
        });
        CHECK.says(28, "THE IMAGE is taken: ROUND (0, 999)", () -> {
            StepMachines x = new StepMachines();
            due("0", x.image(), 0);
            Check.text(x, "l60;".repeat(16) + "l39;");
            due("999", x.image(), 999);
            x = Check.of("c000;l07;");
            due("7", x.image(), 7);
            due("nothing changes", x.count(1), 7);
        });
        CHECK.says(29, "all that there is: of a new object nothing", () -> {
            StepMachines x = new StepMachines();
            x.image();
            Check.text(x, "p0y1;c000;w2;l09;");
            due("restored", x.restore(), 0);
            due("coroutines", x.count(0), 0);
            due("program", x.program(0, -1, 0), 0);
            due("width", x.count(2), 8);
            due("round", x.count(1), 0);
        });
        CHECK.says(29, "all that there is: of eight COROUTINES all", () -> {
            StepMachines x = Check.of("p0t3fy1;p1s2;p2g0;p3j0;p4;c029;c100;c200;c300;c400;c000;c000;c000;l01;w5;");
            int[][] was = new int[8][12];
            for (int c = 0; c < 8; c++) {
                for (int what = 0; what < 12; what++) {
                    was[c][what] = x.coroutine(c, what);
                }
            }
            x.image();
            Check.text(x, "l60;x1;x2;w1;p0;");
            due("restored", x.restore(), 1);
            for (int c = 0; c < 8; c++) {
                for (int what = 0; what < 12; what++) {
                    due("coroutine " + c + " what " + what, x.coroutine(c, what), was[c][what]);
                }
            }
            due("held", x.frame(0, 0, 4), 13);
            due("sending", x.channel(2, 0, 0), 1);
            due("getting", x.channel(0, 0, 1), 2);
            due("program", x.program(0, -1, 0), 3);
            due("width", x.count(2), 5);
        });
        CHECK.says(29, "THE IMAGE stays: RESTORED again and again", () -> {
            StepMachines x = Check.of("l02;");
            x.image();
            for (int i = 0; i < 3; i++) {
                x.rounds(60);
                due("restored", x.restore(), 2);
            }
            x.rounds(1);
            x.image();
            x.rounds(1);
            due("the latest", x.restore(), 3);
        });
        CHECK.says(29, "SHELVES stay as they are", () -> {
            StepMachines x = new StepMachines();
            x.keep(0, 1, 1, 1);
            x.row(1, 0, 1);
            x.image();
            x.keep(0, 1, 5, 5);
            x.put(1, 0, 9);
            x.keep(2, 1, 0, 1);
            x.restore();
            due("a manner", x.cost(0), 7);
            due("an element", x.element(1, 0), 9);
            due("one more", x.cost(2), 1);
        });
    }

    private static void counts() {
        CHECK.says(30, "-1 for others", () -> {
            StepMachines x = Check.of("c000;");
            for (int what : new int[] {-1, 6, MIN, MAX}) {
                due("what " + what, x.count(what), -1);
            }
        });
        CHECK.says(30, "0 COROUTINES (8 at most)", () -> due("eight", Check.of("c000;".repeat(8)).count(0), 8));
        CHECK.says(30, "3 ENDED ones (bits): each STATE, and all eight", () -> {
            for (int state = 0; state < 9; state++) {
                due("state " + state, Check.of(IN_STATE[state]).count(3), state > 5 ? 1 : 0);
            }
            due("eight", Check.of("c000;".repeat(8) + "l01;").count(3), 255);
            due("the last alone", Check.of("c000;".repeat(8) + "x7;").count(3), 128);
        });
        CHECK.says(30, "4 those who wait (bits): each STATE, and all eight", () -> {
            for (int state = 0; state < 9; state++) {
                due("state " + state, Check.of(IN_STATE[state]).count(4), state > 2 && state < 6 ? 1 : 0);
            }
            due("eight", Check.of("p0g0;" + "c000;".repeat(8) + "l01;").count(4), 255);
        });
        CHECK.says(30, "5 OUTS of all", () -> {
            due("none", Check.of("c000;").count(5), 0);
            due("eight", Check.of("p0y1;" + "c000;".repeat(8) + "l01;").count(5), 8);
            due("of ended ones, too", Check.of("p0y1;c000;c000;l01;x0;").count(5), 2);
        });
    }
}
