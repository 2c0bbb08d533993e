/** Promises 13 to 30: what is asked in mind, told states, lots, the image, told by hand. */
public final class InMindTest {
    private static final long REFUSED = 1000000001L;
    private static final Check CHECK = new Check();

    public static void main(String[] args) {
        roundsOn();
        ending();
        beingStuck();
        leastWidths();
        closingBest();
        sendingBest();
        firstOuts();
        firstOutBehind999();
        whichProgram();
        whichProgramRefused();
        programsAlike();
        twoOfThem();
        roundsLost();
        shares();
        forgedStates();
        judgedRounds();
        runsByLot();
        images();
        counts();
        CHECK.end("InMindTest");
    }

    private static void due(String call, long got, long want) {
        CHECK.due(call, got, want);
    }

    private static void roundsOn() {
        StepMachines x = Check.of("p0a5y1y2;c000;c000;w1;");
        int[][] wants = {{0, 0, -4, 0, 0}, {1, 5, -4, 0, 0}, {1, 5, -4, 0, 1}, {2, 5, 6, 1, 0}};
        for (int n = 0; n < 4; n++) {
            for (int what = 0; what < 5; what++) {
                due("then " + n + " what " + what, x.then(0, n, what), wants[n][what]);
            }
        }
        due("60 on", x.then(0, 60, 0), 6);
        due("no such one", x.then(2, 0, 0), -1);
        due("no such one", x.then(-1, 0, 0), -1);
        due("below 0", x.then(0, -1, 0), -1);
        due("61", x.then(0, 61, 0), -1);
        due("what", x.then(0, 0, 5), -1);
        due("what", x.then(0, 0, -1), -1);
        due("nothing changes", x.coroutine(0, 0) + x.count(1), 0);
        x = Check.of("p0y1y2y3;" + "l60;".repeat(16));
        Check.text(x, "l39;c000;");
        due("behind 999 in mind", x.then(0, 2, 2), 2);
    }

    private static void ending() {
        StepMachines x = Check.of("p0y1;p1g0;p2t0;c000;c100;c200;");
        due("two rounds", x.ends(0), 2);
        due("never", x.ends(1), -4);
        due("faulty is ended", x.ends(2), 1);
        due("no such one", x.ends(3), -1);
        due("no such one", x.ends(-1), -1);
        x.close(1);
        due("ended now", x.ends(1), 0);
        due("60 steps", Check.of("p0a1a1a1a1r9" + "a1".repeat(9) + ";c000;").ends(0), 60);
        due("61 steps", Check.of("p0a1a1a1a1r9" + "a1".repeat(10) + ";c000;").ends(0), -4);
    }

    private static void beingStuck() {
        StepMachines x = Check.of("p0y1;p1g0;p2j1;c000;c100;c200;");
        due("when", x.stuck(0), 2);
        due("who", x.stuck(1), 6);
        due("what", x.stuck(2), -1);
        due("what", x.stuck(-1), -1);
        x = Check.of("p0a1a1a1a1r9" + "a1".repeat(9) + ";c000;");
        due("60 rounds", x.stuck(0), 60);
        due("nobody", x.stuck(1), 0);
        x = Check.of("p0a1a1a1a1r9" + "a1".repeat(10) + ";c000;");
        due("61 rounds", x.stuck(0), -4);
        due("who then", x.stuck(1), -4);
        due("no coroutines", new StepMachines().stuck(0), 0);
    }

    private static void leastWidths() {
        StepMachines x = Check.of("p0y1;c000;c000;w1;");
        due("4 rounds", x.leastWidth(4), 1);
        due("3 rounds", x.leastWidth(3), 2);
        due("2 rounds", x.leastWidth(2), 2);
        due("1 round", x.leastWidth(1), -4);
        due("none", x.leastWidth(0), -4);
        due("60", x.leastWidth(60), 1);
        due("61", x.leastWidth(61), -1);
        due("below 0", x.leastWidth(-1), -1);
        due("width stays", x.count(2), 1);
        due("all of eight", Check.of("p0y1;" + "c000;".repeat(8)).leastWidth(2), 8);
        due("no coroutines", new StepMachines().leastWidth(0), 1);
        due("closed are ended", Check.of("c000;x0;").leastWidth(0), 1);
    }

    private static void closingBest() {
        StepMachines x = Check.of("p0g0;p1s0;c000;c000;c100;");
        due("the first getter", x.closeBest(5), 0);
        due("nobody is done yet", x.closeBest(0), -4);
        due("41", x.closeBest(41), -1);
        due("below 0", x.closeBest(-1), -1);
        x = Check.of("p0y1;c000;c000;c000;w1;");
        due("of several the least", x.closeBest(4), 0);
        due("too few rounds", x.closeBest(2), -4);
        due("not more than without", x.closeBest(40), -4);
        x.close(0);
        x.close(1);
        due("the last one alone", x.closeBest(9), -4);
        // With 1 closed 0 throws instead; with 2 closed 3 has what 2 would have had.
        x = Check.of("p0j1;p1g0;p2s0;c000;c100;c100;c100;c200;c200;");
        due("most others", x.closeBest(9), 2);
        x = Check.of("p0y1;p1y1y1y1y1;c000;c100;c000;w1;");
        due("the one that holds up both", x.closeBest(4), 1);
    }

    private static void sendingBest() {
        StepMachines x = Check.of("p0y0m3y0y0m9m9y0m0y3;c000;");
        due("new: v is left", x.sendBest(0, 0), 0);
        due("new: out", x.sendBest(0, 1), 0);
        x.send(0, 0);
        due("20", x.sendBest(0, 0), 20);
        due("60", x.sendBest(0, 1), 60);
        x.send(0, 0);
        x.send(0, 0);
        due("81 times 12", x.sendBest(0, 0), 12);
        due("972", x.sendBest(0, 1), 972);
        x.send(0, 0);
        due("all alike", x.sendBest(0, 0), 0);
        due("3", x.sendBest(0, 1), 3);
        x.send(0, 0);
        due("out stays", x.sendBest(0, 1), 3);
        due("what", x.sendBest(0, 2), -1);
        due("what", x.sendBest(0, -1), -1);
        due("no such one", x.sendBest(1, 0), -1);
        due("no such one", x.sendBest(-1, 0), -1);
        x.send(0, 0);
        due("ended", x.sendBest(0, 0), -3);
        due("what first", x.sendBest(0, 2), -1);
        x = Check.of("p0g0;c000;");
        due("nothing out", x.sendBest(0, 1), -4);
        due("the least v", x.sendBest(0, 0), 0);
        x.send(0, 0);
        due("getting", x.sendBest(0, 0), -3);
    }

    private static void firstOuts() {
        StepMachines x = Check.of("p0a1y1;p1y1;c000;c100;");
        due("the sooner one", x.firstOut(), 1);
        due("of several the least", Check.of("p0y1;c000;c019;").firstOut(), 0);
        due("one a round", Check.of("p0y1;c000;c019;w1;").firstOut(), 1);
        due("nobody", Check.of("p0a1;c000;").firstOut(), -4);
        due("no coroutines", new StepMachines().firstOut(), -4);
        due("in the 60th", Check.of("p0a1a1a1a1r9" + "a1".repeat(9) + "y1;c000;").firstOut(), 0);
        due("in the 61st", Check.of("p0a1a1a1a1r9" + "a1".repeat(10) + "y1;c000;").firstOut(), -4);
        x = Check.of("p0y1;c000;c000;n000;");
        due("a yield of now does not count", x.firstOut(), 1);
    }

    private static void firstOutBehind999() {
        StepMachines x = Check.of("p0d1r9;p1d2r9;p2d3r9;p3y0r9;c000;");
        Check.onShelf(x, 0, 0, "n000;".repeat(20).chars().toArray());
        for (int i = 0; i < 50; i++) {
            due("20 sendings", x.text(0), 20);
        }
        due("999 at most", x.coroutine(0, 3), 999);
        due("together", x.count(5), 999);
        due("a yield counts all the same", x.firstOut(), 0);
        due("none more", x.lots(1, 1, 0), 0);
    }

    private static int whatProgram(StepMachines x, int sort, int... told) {
        Check.onShelf(x, 3, sort, told);
        return x.whatProgram(3);
    }

    private static void whichProgram() {
        StepMachines x = Check.of("p0y1y2y3;p1y1y2;p2y1a9y2;p3a1;");
        due("all", whatProgram(x, 0), 31);
        due("two of them", whatProgram(x, 0, 1, 2), 3);
        due("one", whatProgram(x, 1, 1, 2, 3), 1);
        due("none", whatProgram(x, 2, 1, 2, 4), 0);
        due("by its acc", whatProgram(x, 0, 1, 11), 4);
        due("one number skipped", whatProgram(x, 0, 1, -128, 3), 1);
        due("paused all the same", whatProgram(x, 0, -128, -128), 7);
        due("not paused behind a skipped one", whatProgram(x, 0, 1, 2, -128), 1);
        due("shorts", whatProgram(x, 1, -32768, 2), 3);
        due("-128 of shorts", whatProgram(x, 1, -128), 0);
        due("ints", whatProgram(x, 2, Integer.MIN_VALUE, 2), 3);
        due("-32768 of ints", whatProgram(x, 2, -32768), 0);
        due("nothing changes", x.count(0), 0);
        x = Check.of("p0g0y1;p1a4s0;p2a1a1a1a1r9y0;c100;n000;");
        due("besides all there is", whatProgram(x, 0, 5), 1);
        due("ready behind 40 steps", whatProgram(x, 0, -128), 1);
        due("the sender still waits", x.coroutine(0, 0), 3);
    }

    private static void whichProgramRefused() {
        StepMachines x = Check.of("c000;".repeat(8));
        x.keep(1, 1, 0, 0);
        x.row(2, 1, 2);
        due("no such shelf", x.whatProgram(8), -1);
        due("no such shelf", x.whatProgram(-1), -1);
        due("nothing held", x.whatProgram(0), -11);
        due("a manner", x.whatProgram(1), -12);
        due("no room", x.whatProgram(2), -2);
        due("room for one", whatProgram(Check.of("c000;".repeat(7)), 0), 31);
    }

    private static void programsAlike() {
        StepMachines x = Check.of("p0y1y2;p1y1y2a1;p2y1y3;p3y1y2t1;");
        due("two sendings", x.alike(0, 1, 2), 1);
        due("acc does not count", x.alike(0, 1, 20), 1);
        due("one sending", x.alike(0, 2, 1), 1);
        due("other outs", x.alike(0, 2, 2), 0);
        due("two sendings", x.alike(0, 3, 2), 1);
        due("other states", x.alike(0, 3, 3), 0);
        due("no sending", x.alike(0, 4, 0), 1);
        due("one is done", x.alike(0, 4, 1), 0);
        due("itself", x.alike(1, 1, 2), -1);
        due("no such program", x.alike(5, 1, 2), -1);
        due("no such program", x.alike(1, -1, 2), -1);
        due("21", x.alike(0, 1, 21), -1);
        due("below 0", x.alike(0, 1, -1), -1);
        x = Check.of("p0s0;p1s0y1;p2g0;p3g0y0;");
        due("as long as they can be", x.alike(0, 1, 20), 1);
        due("each by itself", x.alike(0, 2, 1), 0);
        due("nobody is there", x.alike(2, 3, 20), 1);
        Check.text(x, "c000;n000;");
        due("besides all there is", x.alike(2, 3, 1), 0);
        Check.text(x, "c000;".repeat(6));
        due("room for one", x.alike(0, 1, 3), 1);
        Check.text(x, "c000;");
        due("no room", x.alike(0, 1, 3), -2);
        due("itself first", x.alike(0, 0, 3), -1);
        due("n first", x.alike(0, 1, 21), -1);
    }

    private static void twoOfThem() {
        StepMachines x = Check.of("p0s0;p1g0t1;p2y1;c000;c100;c200;c200;");
        due("neither", x.two(2, 3, 9), 0);
        due("the one", x.two(0, 1, 2), 10);
        due("the other", x.two(1, 0, 2), 1);
        due("no fault yet", x.two(0, 1, 1), 0);
        due("40", x.two(0, 1, 40), 10);
        due("41", x.two(0, 1, 41), -1);
        due("below 0", x.two(0, 1, -1), -1);
        due("one twice", x.two(1, 1, 2), -1);
        due("no such one", x.two(0, 4, 2), -1);
        due("no such one", x.two(-1, 0, 2), -1);
        due("nothing changes", x.count(3), 0);
        x.close(2);
        due("the one is ended", x.two(2, 3, 2), -3);
        due("the other is ended", x.two(3, 2, 2), -3);
        due("n first", x.two(2, 3, 41), -1);
        // 6 less weighs more than 2 less and 3 outs, but not more than 2 less and 4.
        x = Check.of("p0s0y1y1y1;p1g0t1;c000;c100;");
        due("5 by 6", x.two(0, 1, 9), 10);
        x = Check.of("p0s0y1y1y1y1;p1g0t1;c000;c100;");
        due("6 by 6", x.two(0, 1, 9), 0);
        due("6 by 6, of the other", x.two(1, 0, 9), 0);
    }

    private static void dueLost(StepMachines x, int n, int t, long above, long below) {
        due("lost " + n + " " + t + " above", x.lost(0, n, t, 0), above);
        due("lost " + n + " " + t + " below", x.lost(0, n, t, 1), below);
    }

    private static void roundsLost() {
        StepMachines x = Check.of("c000;");
        dueLost(x, 0, 2, 0, 1);
        dueLost(x, 1, 2, 1, 2);
        dueLost(x, 2, 2, 3, 4);
        dueLost(x, 1, 20, 19, 20);
        x = Check.of("p0y1;c000;");
        dueLost(x, 1, 3, 0, 1);
        dueLost(x, 2, 3, 4, 9);
        dueLost(x, 3, 3, 20, 27);
        dueLost(x, 2, 4, 9, 16);
        dueLost(x, 3, 4, 27, 32);
        dueLost(x, 7, 20, 639999933, 640000000);
        due("no such one", x.lost(1, 2, 3, 0), REFUSED);
        due("no such one", x.lost(-1, 2, 3, 0), REFUSED);
        due("8", x.lost(0, 8, 3, 0), REFUSED);
        due("below 0", x.lost(0, -1, 3, 0), REFUSED);
        due("t 1", x.lost(0, 2, 1, 0), REFUSED);
        due("t 21", x.lost(0, 2, 21, 0), REFUSED);
        due("part", x.lost(0, 2, 3, 2), REFUSED);
        due("part", x.lost(0, 2, 3, -1), REFUSED);
        due("nothing changes", x.count(1), 0);
        x.close(0);
        dueLost(x, 0, 5, 1, 1);
        dueLost(x, 5, 5, 1, 1);
    }

    private static void dueShare(StepMachines x, long above, long below) {
        due("share above", x.share(0), above);
        due("share below", x.share(1), below);
    }

    private static void shares() {
        dueShare(new StepMachines(), 0, 1);
        StepMachines x = Check.of("c000;".repeat(6));
        dueShare(x, 0, 1);
        x.close(3);
        dueShare(x, 1, 6);
        x.close(0);
        dueShare(x, 1, 3);
        x.close(5);
        x.close(4);
        dueShare(x, 2, 3);
        x.rounds(1);
        dueShare(x, 1, 1);
        due("part", x.share(2), REFUSED);
        due("part", x.share(-1), REFUSED);
    }

    private static int forged(StepMachines x, int sort, int... told) {
        Check.onShelf(x, 3, sort, told);
        return x.forged(3);
    }

    private static void forgedStates() {
        StepMachines x = Check.of("p0y1;p1g0;c000;c000;c100;n100;n200;");
        due("so it is", forged(x, 0, 0, 2, 4), -4);
        due("a shorter row", forged(x, 1, 0, 2), -4);
        due("an empty row", forged(x, 2), -4);
        due("the first", forged(x, 0, 1, 1, 4), 0);
        due("the last", forged(x, 0, 0, 2, 3), 2);
        due("no such one", forged(x, 0, 0, 2, 4, 0), 3);
        due("nothing is skipped", forged(x, 0, 0, -128, 4), 1);
        x.keep(1, 1, 0, 0);
        due("no such shelf", x.forged(8), -1);
        due("no such shelf", x.forged(-1), -1);
        due("nothing held", x.forged(0), -11);
        due("a manner", x.forged(1), -12);
    }

    private static int judge(StepMachines x, int sort, int... told) {
        Check.onShelf(x, 3, sort, told);
        return x.judge(3);
    }

    private static void judgedRounds() {
        StepMachines x = Check.of("p0y1;p1;c000;c100;");
        due("so it is", judge(x, 0, 0, 1, 2, 2, 2), -4);
        due("an empty row", judge(x, 2), -4);
        due("now", judge(x, 0, 1), 0);
        due("one round on", judge(x, 0, 0, 2, 2), 1);
        due("skipped", judge(x, 0, -128, -128, 2), -4);
        due("skipped, the round goes", judge(x, 0, -128, -128, 1), 2);
        due("skipped in shorts", judge(x, 1, -32768, 1), -4);
        due("-128 in shorts", judge(x, 1, 0, -128), 1);
        due("skipped in ints", judge(x, 2, Integer.MIN_VALUE, 1), -4);
        int[] long100 = new int[100];
        java.util.Arrays.fill(long100, 2);
        long100[0] = 0;
        long100[1] = 1;
        due("99 rounds", judge(x, 0, long100), -4);
        long100[99] = 3;
        due("the last", judge(x, 0, long100), 99);
        x.keep(1, 1, 0, 0);
        due("no such shelf", x.judge(8), -1);
        due("no such shelf", x.judge(-1), -1);
        due("nothing held", x.judge(0), -11);
        due("a manner", x.judge(1), -12);
        due("nothing changes", x.count(1), 0);
    }

    private static void runsByLot() {
        StepMachines x = Check.of("p0" + "y0".repeat(16) + ";c000;");
        due("6 sendings, 5 rounds", x.lots(1, 5, 0), 11);
        due("three times", x.lots(3, -5, 0), 33);
        due("nobody ended", x.lots(20, 0, 1), 0);
        x.rounds(1);
        due("just those more", x.lots(2, 9, 0), 22);
        due("ended", Check.of("c000;").lots(4, 7, 1), 4);
        due("nothing out", Check.of("c000;").lots(4, 7, 0), 0);
        // Seed 1 draws 0 1 1 0 0 1 of two, so each has three sendings.
        x = Check.of("p0y0y0y0s0;p1y0y0y0y0;c000;c100;");
        due("seed 1", x.lots(1, 1, 0), 7);
        due("seed 1 ended", x.lots(1, 1, 1), 1);
        due("0 runs", x.lots(0, 1, 0), -1);
        due("21 runs", x.lots(21, 1, 0), -1);
        due("what", x.lots(1, 1, 2), -1);
        due("what", x.lots(1, 1, -1), -1);
        due("no coroutines", new StepMachines().lots(20, 3, 1), 0);
        due("no coroutines, 0 runs", new StepMachines().lots(0, 3, 1), -1);
    }

    private static void images() {
        StepMachines x = Check.of("p0y1y2;c015;w3;l02;");
        due("none yet", x.restore(), -3);
        due("taken", x.image(), 2);
        Check.text(x, "p0a1;w5;n000;c000;l07;");
        x.keep(2, 1, 1, 1);
        due("changed", x.count(1) + x.count(0), 11);
        due("restored", x.restore(), 2);
        due("coroutines", x.count(0), 1);
        due("round", x.count(1), 2);
        due("width", x.count(2), 3);
        due("program", x.program(0, -1, 0), 2);
        due("out", x.coroutine(0, 2), 7);
        due("shelves stay", x.cost(2), 1);
        due("one who comes is new", x.comes(0, 2), 1);
        due("new", x.coroutine(1, 0), 0);
        due("restored again", x.restore(), 2);
        due("coroutines", x.count(0), 1);
        x = Check.of("p0g1;p1a3s1y0;c000;c100;n000;");
        x.image();
        x.send(1, 0);
        x.restore();
        due("who is getting", x.channel(1, 0, 1), 0);
        x.send(1, 0);
        due("got again", x.coroutine(0, 1), 3);
        x.image();
        x.rounds(9);
        x.restore();
        due("the later image", x.coroutine(0, 0), 1);
        x = Check.of("p0d0ft1;p1y1;c100;");
        x.image();
        Check.text(x, "c039;c000;w1;l05;n100;");
        due("all of it is used", x.coroutine(2, 4) * x.coroutine(1, 11), 35);
        x.restore();
        Check.text(x, "c100;c100;");
        for (int c = 1; c < 3; c++) {
            int[] wants = {0, 0, -4, 0, 0, 1, 0, 0, 100, 1, -4, 0};
            for (int what = 0; what < wants.length; what++) {
                due("as new as the first was " + what, x.coroutine(c, what), wants[what]);
            }
            for (int what = 0; what < 5; what++) {
                due("its frame " + what, x.frame(c, 0, what), what == 0 ? 1 : 0);
            }
        }
    }

    private static void counts() {
        StepMachines x = Check.of("p0y1;p1g0;p2t1;p3s1;p4j1;c000;c100;c200;c300;c400;w8;l01;w4;");
        due("coroutines", x.count(0), 5);
        due("round", x.count(1), 1);
        due("width", x.count(2), 4);
        due("ended", x.count(3), 4);
        due("waiting", x.count(4), 26);
        due("outs", x.count(5), 1);
        x.rounds(1);
        due("ended", x.count(3), 5);
        due("others", x.count(6), -1);
        due("others", x.count(-1), -1);
    }
}
