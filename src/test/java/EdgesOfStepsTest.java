/** Promises 9 to 12: a test of its own for each sentence that names a boundary, told by hand. */
public final class EdgesOfStepsTest {
    private static final String[] IN_STATE = EdgesOfProgramsTest.IN_STATE;
    private static final int MIN = Integer.MIN_VALUE;
    private static final int MAX = Integer.MAX_VALUE;
    private static final Check CHECK = new Check();

    public static void main(String[] args) {
        sendingRefused();
        sendingLong();
        yielding();
        taking();
        counting();
        passingOver();
        goingBack();
        goingDown();
        meeting();
        meetingNobody();
        joining();
        joiningEnded();
        framesEnding();
        throwing();
        causes();
        closingRefused();
        closingFrames();
        closingSteps();
        closingWaiting();
        widths();
        roundsRefused();
        roundsChoosing();
        roundsGoing();
        CHECK.dueSentences(9, 12);
        CHECK.end("EdgesOfStepsTest");
    }

    private static void due(String call, long got, long want) {
        CHECK.due(call, got, want);
    }

    private static void dueCauses(StepMachines x, int c, int... codes) {
        due("state of " + c, x.coroutine(c, 0), codes.length == 0 ? x.coroutine(c, 0) : 7);
        due("faults of " + c, x.coroutine(c, 11), codes.length);
        for (int i = 0; i < codes.length; i++) {
            due("cause " + i + " of " + c, x.cause(c, i), codes[i]);
        }
    }

    private static void dueFrame(StepMachines x, int c, int i, int... wants) {
        for (int what = 0; what < wants.length; what++) {
            due("frame " + i + " of " + c + " what " + what, x.frame(c, i, what), wants[what]);
        }
    }

    private static void sendingRefused() {
        CHECK.says(9, "-1 no such COROUTINE", () -> {
            StepMachines x = Check.of("c000;");
            for (int c : new int[] {-1, 1, 8, MIN, MAX}) {
                due("send to " + c, x.send(c, 0), -1);
            }
        });
        CHECK.says(9, "v (0 .. 999)", () -> {
            StepMachines x = Check.of("p0y0y0y0;c000;n000;");
            for (int v : new int[] {-1, 1000, MIN, MAX}) {
                due("sent " + v, x.send(0, v), -1);
            }
            due("nothing changed", x.coroutine(0, 3), 1);
            due("sent 999", x.send(0, 999), 2);
            due("it has it", x.coroutine(0, 1), 999);
            due("sent 0", x.send(0, 0), 2);
            due("it has it", x.coroutine(0, 1), 0);
        });
        CHECK.says(9, "-3 it can't be (NEW, READY, PAUSED)", () -> {
            for (int state = 0; state < 9; state++) {
                due("state " + state, Check.of(IN_STATE[state]).send(0, 1), state > 2 ? -3 : 6);
            }
        });
        CHECK.says(9, "-1 goes ahead of -3", () -> {
            due("v", Check.of(IN_STATE[8]).send(0, 1000), -1);
            due("v", Check.of(IN_STATE[3]).send(0, -1), -1);
        });
    }

    private static void sendingLong() {
        String thirty = "p0a0a0r9";
        CHECK.says(9, "40 at most: PAUSED by the 40th", () -> {
            StepMachines x = Check.of(thirty + "a0".repeat(9) + "y7;c000;");
            due("state", x.send(0, 0), 2);
            due("out", x.coroutine(0, 2), 7);
        });
        CHECK.says(9, "40 at most: the 41st is not made", () -> {
            StepMachines x = Check.of(thirty + "a0".repeat(10) + "y7;c000;");
            due("state", x.send(0, 0), 1);
            due("out", x.coroutine(0, 2), -4);
            due("its step", x.frame(0, 0, 1), 13);
            due("then", x.send(0, 0), 2);
        });
        CHECK.says(9, "40 at most: the end is a STEP, too", () -> {
            due("the 40th", Check.of(thirty + "a0".repeat(9) + ";c000;").send(0, 0), 6);
            due("the 41st", Check.of(thirty + "a0".repeat(10) + ";c000;").send(0, 0), 1);
        });
        CHECK.says(9, "if PAUSED ACC is as SENT tells: else it is not", () -> {
            StepMachines x = Check.of("c000;n055;");
            due("new: left", x.coroutine(0, 1), 0);
            x = Check.of("p0a1;c000;l01;n055;");
            due("ready: left", x.coroutine(0, 1), 1);
            x = Check.of("p0y1;c000;l01;n055;");
            due("paused: taken", x.coroutine(0, 1), 55);
        });
        CHECK.says(9, "it makes STEPS till it is not READY: AGE and ROUND stay", () -> {
            StepMachines x = Check.of("p0y1y1;c000;c000;w1;l01;n100;");
            due("age", x.coroutine(1, 4), 1);
            due("round", x.count(1), 1);
        });
    }

    private static int out(String manner, int acc, int n) {
        StepMachines x = Check.of("p0y0y" + n + ";c0" + manner + ";n000;");
        x.send(0, acc);
        return x.coroutine(0, 2);
    }

    private static void yielding() {
        CHECK.says(9, "YIELDS (of ACC and n together, modulo 1000, u): PLAIN u", () -> {
            due("999 and 0", out("09", 999, 0), 999);
            due("999 and 1", out("09", 999, 1), 0);
            due("999 and 9", out("09", 999, 9), 8);
        });
        CHECK.says(9, "LOUD (u and FIGURE) modulo 1000", () -> {
            due("998, sent as eager 999, 0, 0", out("30", 998, 0), 998);
            due("998 and 1, 0 and 1", out("31", 998, 0), 0);
            due("990 and 9, 9, and 9", out("39", 990, 9), 17);
            due("999 and 9, 9, and 9", out("39", 999, 9), 26);
        });
        CHECK.says(9, "SHY u by 2, cut: behind the modulo", () -> {
            due("1", out("29", 1, 0), 0);
            due("999", out("29", 999, 0), 499);
            due("999 and 3", out("29", 999, 3), 1);
            due("meek 999 and 4", out("49", 999, 4), 1);
            due("meek 1", out("49", 1, 0), 0);
        });
        CHECK.says(9, "What is not told of a KIND is as of the one it is under: YIELDS", () -> {
            due("eager: sent 990 and 9", out("19", 990, 0), 999);
            due("sturdy", out("59", 990, 9), 999);
        });
        CHECK.says(9, "\"y\" leaves ACC as it is", () -> {
            StepMachines x = Check.of("p0y9;c039;n000;");
            due("acc", x.coroutine(0, 1), 0);
            due("out", x.coroutine(0, 2), 18);
        });
    }

    private static int accSent(String manner, int before, int v) {
        StepMachines x = Check.of("p0a" + before + "y0y0;c0" + manner + ";n000;");
        x.send(0, v);
        return x.coroutine(0, 1);
    }

    private static void taking() {
        CHECK.says(9, "SENT: PLAIN v (SHY, MEEK as PLAIN)", () -> {
            for (String manner : new String[] {"09", "29", "49"}) {
                due("0 to " + manner, accSent(manner, 7, 0), 0);
                due("999 to " + manner, accSent(manner, 7, 999), 999);
            }
        });
        CHECK.says(9, "EAGER (v and FIGURE) modulo 1000 (LOUD, too)", () -> {
            for (String manner : new String[] {"19", "39"}) {
                due("0 to " + manner, accSent(manner, 7, 0), 9);
                due("990 to " + manner, accSent(manner, 7, 990), 999);
                due("991 to " + manner, accSent(manner, 7, 991), 0);
                due("999 to " + manner, accSent(manner, 7, 999), 8);
            }
        });
        CHECK.says(9, "STURDY as a PLAIN one, but 0 leaves ACC as it is", () -> {
            due("0", accSent("59", 7, 0), 7);
            due("1", accSent("59", 7, 1), 1);
            due("999", accSent("59", 7, 999), 999);
        });
    }

    private static void counting() {
        CHECK.says(9, "\"a\": ACC is n more, modulo 1000", () -> {
            StepMachines x = Check.of("p0y0a1y0a0y0;c000;n000;");
            x.send(0, 999);
            due("999 and 1", x.coroutine(0, 1), 0);
            x.send(0, 999);
            due("999 and 0", x.coroutine(0, 1), 999);
        });
        CHECK.says(9, "\"m\": n times, modulo 1000", () -> {
            StepMachines x = Check.of("p0y0m9y0m0y0m1y0m2y0;c000;n000;");
            x.send(0, 999);
            due("999 times 9", x.coroutine(0, 1), 991);
            x.send(0, 999);
            due("999 times 0", x.coroutine(0, 1), 0);
            x.send(0, 999);
            due("999 times 1", x.coroutine(0, 1), 999);
            x.send(0, 500);
            due("500 times 2", x.coroutine(0, 1), 0);
        });
    }

    private static void passingOver() {
        CHECK.says(9, "\"z\": if ACC is 0", () -> {
            due("0", Check.of("p0z1t1;c000;").send(0, 0), 6);
            due("1", Check.of("p0a1z1t1;c000;").send(0, 0), 7);
            StepMachines x = Check.of("p0y0a1z1t1;c000;n000;");
            due("999 and 1", x.send(0, 999), 6);
        });
        CHECK.says(9, "\"z\": the next n STEPS are passed over: 0, all, more than all", () -> {
            StepMachines x = Check.of("p0z0y1;c000;n000;");
            due("none", x.coroutine(0, 2), 1);
            x = Check.of("p0z1y1y2;c000;n000;");
            due("one", x.coroutine(0, 2), 2);
            due("all", Check.of("p0z2y1y2;c000;").send(0, 0), 6);
            due("more than all", Check.of("p0z9y1y2;c000;").send(0, 0), 6);
            due("behind the last", Check.of("p0z9;c000;").send(0, 0), 6);
            due("of sixteen", Check.of("p0" + "a0".repeat(15) + "z9;c000;").send(0, 0), 6);
        });
        CHECK.says(9, "an \"f\" passed over is no STEP made: the FRAME is not FINISHING", () -> {
            StepMachines x = Check.of("p0z1fy1;c000;n000;");
            dueFrame(x, 0, 0, 0, 3, 0, 0, 0);
            due("closed at once", x.close(0), 8);
        });
        CHECK.says(9, "passed over are STEPS, not frames: the one below goes on", () -> {
            StepMachines x = Check.of("p0d1y5;p1z9;c000;n000;");
            due("out", x.coroutine(0, 2), 5);
        });
    }

    private static void goingBack() {
        CHECK.says(9, "\"r\": COUNT is below n", () -> {
            for (int n = 0; n < 10; n++) {
                StepMachines x = Check.of("p0a1r" + n + "y0;c000;n000;");
                due("times " + n, x.coroutine(0, 1), n + 1);
                due("count", x.frame(0, 0, 2), n);
            }
        });
        CHECK.says(9, "COUNT is of the FRAME, not of the STEP", () -> {
            StepMachines x = Check.of("p0a1r2a1r3y0;c000;n000;");
            due("acc", x.coroutine(0, 1), 6);
            dueFrame(x, 0, 0, 0, 5, 3, 0, 0);
        });
        CHECK.says(9, "\"r\": if the FRAME is not FINISHING", () -> {
            StepMachines x = Check.of("p0fa1r9y0;c000;n000;");
            due("acc", x.coroutine(0, 1), 1);
            dueFrame(x, 0, 0, 0, 4, 0, 1, 0);
        });
        CHECK.says(9, "each FRAME has a COUNT (0 at first)", () -> {
            StepMachines x = Check.of("p0d1r1y0;p1a1r2;c000;n000;");
            due("three times twice", x.coroutine(0, 1), 6);
            due("count", x.frame(0, 0, 2), 1);
        });
    }

    private static void goingDown() {
        String five = "p0y0d1;p1d2;p2d3;p3d4;c000;n000;";
        CHECK.says(9, "\"d\": with 6 there already it THROWS 7", () -> {
            StepMachines x = Check.of(five + "p4d0;p0y0;");
            due("the sixth", x.send(0, 0), 2);
            due("frames", x.coroutine(0, 9), 6);
            x = Check.of(five + "p4d0;p0d1;");
            due("the seventh", x.send(0, 0), 7);
            dueCauses(x, 0, 7);
        });
        CHECK.says(9, "\"d\": no such PROGRAM: 6", () -> {
            for (int p = 5; p < 10; p++) {
                StepMachines x = Check.of("p0d" + p + ";c000;n000;");
                dueCauses(x, 0, 6);
            }
            StepMachines x = Check.of("p0d4y0;c000;n000;");
            due("program 4 is there", x.coroutine(0, 0), 2);
        });
        CHECK.says(9, "\"d\": THROWS 7 goes ahead of 6", () -> {
            StepMachines x = Check.of(five + "p4d0;p0d5;");
            x.send(0, 0);
            dueCauses(x, 0, 7);
            x = Check.of(five + "p4d5;");
            x.send(0, 0);
            dueCauses(x, 0, 6);
        });
        CHECK.says(9, "\"d\": of PROGRAM n as that is then, its own, too", () -> {
            StepMachines x = Check.of("p0d0y3;c000;p0y4;n000;");
            due("out", x.coroutine(0, 2), 4);
            due("frames", x.coroutine(0, 9), 2);
            x.send(0, 0);
            due("the one below", x.coroutine(0, 2), 3);
        });
        CHECK.says(9, "a FRAME of an empty PROGRAM ENDS at once", () -> {
            StepMachines x = Check.of("p0d1y3;c000;n000;");
            due("out", x.coroutine(0, 2), 3);
            due("frames", x.coroutine(0, 9), 1);
            x = Check.of("p0d1y3;c000;l02;");
            due("it took one step", x.coroutine(0, 3), 0);
            x.rounds(1);
            due("then", x.coroutine(0, 3), 1);
        });
    }

    private static void meeting() {
        CHECK.says(9, "\"s\": the first of them has ACC as its ACC and is READY", () -> {
            StepMachines x = Check.of("p0g2y0;p1a3s2y1;c019;c000;c139;n100;n000;n200;");
            int[] first = {1, 3, -4, 0, 0, 0, 0, 0, 100, 1, -4, 0};
            for (int what = 0; what < first.length; what++) {
                due("the first, what " + what, x.coroutine(1, what), first[what]);
            }
            due("the other waits", x.coroutine(0, 0), 4);
            due("with its own", x.coroutine(0, 1), 0);
            due("the sender goes on", x.coroutine(2, 0), 2);
            due("with its own", x.coroutine(2, 1), 3);
        });
        CHECK.says(9, "\"g\": it has the ACC of the first of them, who is READY", () -> {
            StepMachines x = Check.of("p0a4s0y0;p1g0y1;c000;c000;p0a5;c100;n100;n000;n200;");
            due("it has", x.coroutine(2, 1), 4);
            due("the first", x.coroutine(1, 0), 1);
            due("waits no more", x.coroutine(1, 10), -4);
            due("the other", x.coroutine(0, 0), 3);
            due("it went on", x.coroutine(2, 2), 5);
        });
        CHECK.says(9, "(CHANNEL n; no such one: it THROWS 6)", () -> {
            for (int ch = 0; ch < 10; ch++) {
                for (String letter : new String[] {"s", "g"}) {
                    StepMachines x = Check.of("p0" + letter + ch + ";c000;n000;");
                    due("state", x.coroutine(0, 0), ch > 2 ? 7 : letter.equals("s") ? 3 : 4);
                    due("fault", x.cause(0, 0), ch > 2 ? 6 : -1);
                }
            }
        });
    }

    private static void meetingNobody() {
        CHECK.says(9, "else it is SENDING there, GETTING there: the CHANNELS apart", () -> {
            StepMachines x = Check.of("p0s0;p1g1;p2g2;c000;c100;c200;n000;n100;n200;");
            due("who wait", x.count(4), 7);
            for (int ch = 0; ch < 3; ch++) {
                due("sending", x.channel(ch, -1, 0), ch == 0 ? 1 : 0);
                due("getting", x.channel(ch, -1, 1), ch == 0 ? 0 : 1);
            }
        });
        CHECK.says(9, "who is SENDING doesn't meet who is SENDING", () -> {
            StepMachines x = Check.of("p0s0;p1g1;c000;c000;c100;c100;n100;n000;n200;n300;");
            due("who wait", x.count(4), 15);
            due("sending first", x.channel(0, 0, 0), 1);
            due("sending next", x.channel(0, 1, 0), 0);
            due("getting", x.channel(1, -1, 1), 2);
        });
        CHECK.says(9, "one SENDING is at the next STEP", () -> {
            StepMachines x = Check.of("p0s0y1;c000;n000;");
            due("step", x.frame(0, 0, 1), 1);
        });
    }

    private static void joining() {
        CHECK.says(9, "\"j\" (itself: it THROWS 6)", () -> {
            StepMachines x = Check.of("p0j1;c000;c000;n100;");
            dueCauses(x, 1, 6);
        });
        CHECK.says(9, "\"j\" (no such one: it THROWS 6)", () -> {
            StepMachines x = Check.of("p0j2;c000;c000;n000;c100;n100;");
            dueCauses(x, 0, 6);
            due("one that has come then", x.coroutine(1, 0), 5);
            for (int n = 8; n < 10; n++) {
                x = Check.of("p0j" + n + ";" + "c000;".repeat(8) + "n000;");
                dueCauses(x, 0, 6);
            }
        });
        CHECK.says(9, "else it is JOINING that: NEW, READY, PAUSED, SENDING, GETTING, JOINING", () -> {
            for (int state = 0; state < 6; state++) {
                StepMachines x = Check.of(IN_STATE[state] + "p2j0;c200;");
                int c = x.count(0) - 1;
                due("joins one in state " + state, x.send(c, 0), 5);
                due("whom", x.coroutine(c, 10), 0);
            }
        });
        CHECK.says(9, "those JOINING it, by numbers", () -> {
            // 3 comes to join ahead of 1; told are both, and 2 by 1.
            StepMachines x = Check.of("p0y0;p1j0;p2j1y5;c000;c100;c200;c100;n000;n300;n200;n100;x0;");
            dueCauses(x, 1, 5);
            dueCauses(x, 2, 8, 5);
            dueCauses(x, 3, 5);
        });
        CHECK.says(9, "are READY and have it as told: all seven", () -> {
            StepMachines x = Check.of("p0y0;p1j0y0;c000;" + "c100;".repeat(7) + "l01;");
            due("all seven wait", x.count(4), 254);
            x.send(0, 42);
            for (int c = 1; c < 8; c++) {
                due("state", x.coroutine(c, 0), 1);
                due("acc", x.coroutine(c, 1), 42);
                due("waits", x.coroutine(c, 10), -4);
                due("age", x.coroutine(c, 4), 0);
            }
        });
        CHECK.says(9, "those that JOIN it are told then, ahead of the next number", () -> {
            // 0 faulty: 1 throws, so 2 (who joins 1) holds 8 by 8 by 3 ahead of 3, who joins 0.
            StepMachines x = Check.of("p0t3;p1j0;p2j1fy0;c000;c100;c200;c100;n100;n200;n300;n000;");
            dueCauses(x, 1, 8, 3);
            dueCauses(x, 3, 8, 3);
            due("2 holds", x.frame(2, 0, 4), 18);
            x.rounds(2);
            dueCauses(x, 2, 8, 8, 3);
        });
        CHECK.says(9, "a chain of all eight JOINING is told at once", () -> {
            StepMachines x = Check.of("p0t3;c000;p0j0;c000;p0j1;c000;p0j2;c000;p0j3;c000;p0j4;c000;");
            Check.text(x, "p0j5;c000;p0j6;c000;n100;n200;n300;n400;n500;n600;n700;n000;");
            due("all ended", x.count(3), 255);
            dueCauses(x, 7, 8, 8, 8, 8, 8, 8, 8, 3);
        });
    }

    private static void joiningEnded() {
        CHECK.says(9, "if that is DONE: ACC is that one's", () -> {
            StepMachines x = Check.of("p0a9;c000;n000;p1a1j0y0;c119;n100;");
            due("acc", x.coroutine(1, 1), 9);
            due("out", x.coroutine(1, 2), 9);
        });
        CHECK.says(9, "if FAULTY: it THROWS 8, with that one's FAULT as CAUSE", () -> {
            StepMachines x = Check.of("p0t0ft9;c000;n000;p1j0;c100;n100;");
            dueCauses(x, 1, 8, 9, 0);
            dueCauses(x, 0, 9, 0);
        });
        CHECK.says(9, "if CLOSED: it THROWS 5 (no CAUSE)", () -> {
            StepMachines x = Check.of("c000;x0;p1j0;c100;n100;");
            dueCauses(x, 1, 5);
        });
    }

    private static void framesEnding() {
        CHECK.says(9, "behind its last STEP has one STEP more: that FRAME ENDS", () -> {
            StepMachines x = Check.of("p0a1;c000;l01;");
            due("behind its last", x.frame(0, 0, 1), 1);
            due("ready", x.coroutine(0, 0), 1);
            due("one more", x.rounds(1), 1);
            due("done", x.coroutine(0, 0), 6);
        });
        CHECK.says(9, "(of an empty PROGRAM at once)", () -> due("one round", Check.of("c000;").rounds(1), 1));
        CHECK.says(9, "without a HELD thing it goes, and the FRAME below goes on (without one: DONE)", () -> {
            StepMachines x = Check.of("p0d1y1;p1fa2;c000;n000;");
            due("goes on", x.coroutine(0, 2), 3);
            due("done", x.send(0, 0), 6);
        });
        CHECK.says(9, "with a FAULT HELD the FRAME below THROWS that (without one: FAULTY with it)", () -> {
            StepMachines x = Check.of("p0d1y9fy1;p1t4fa2;c000;n000;");
            due("the one below finishes", x.coroutine(0, 2), 3);
            dueFrame(x, 0, 0, 0, 4, 0, 1, 14);
            due("faulty", x.send(0, 0), 7);
            dueCauses(x, 0, 4);
        });
        CHECK.says(9, "an ended FRAME below six others", () -> {
            StepMachines x = Check.of("p0d1a1;p1d2a1;p2d3a1;p3d4a1;p4y0a1;c000;n000;");
            due("frames", x.coroutine(0, 9), 5);
            due("done", x.send(0, 0), 6);
            due("acc", x.coroutine(0, 1), 5);
        });
    }

    private static void throwing() {
        CHECK.says(9, "\"t\": it THROWS n (0 .. 9)", () -> {
            for (int n = 0; n < 10; n++) {
                dueCauses(Check.of("p0t" + n + ";c000;n000;"), 0, n);
            }
        });
        CHECK.says(9, "an \"f\" at its STEP (the STEP that would be next)", () -> {
            StepMachines x = Check.of("p0t1fy0;c000;n000;");
            dueFrame(x, 0, 0, 0, 3, 0, 1, 11);
        });
        CHECK.says(9, "an \"f\" behind its STEP: the last", () -> {
            StepMachines x = Check.of("p0t1y1y1f;c000;");
            due("goes behind it, and ends", x.send(0, 0), 7);
            due("nothing out", x.coroutine(0, 3), 0);
            x = Check.of("p0t1y1y1f;c000;l01;");
            dueFrame(x, 0, 0, 0, 4, 0, 1, 11);
        });
        CHECK.says(9, "no \"f\" at or behind: one passed over is ahead of its STEP", () -> {
            StepMachines x = Check.of("p0z1ft1y0;c000;n000;");
            dueCauses(x, 0, 1);
        });
        CHECK.says(9, "is it not FINISHING: else it goes", () -> {
            StepMachines x = Check.of("p0d1fy0;p1ft1;c000;n000;");
            dueFrame(x, 0, 0, 0, 3, 0, 1, 11);
            due("frames", x.coroutine(0, 9), 1);
        });
        CHECK.says(9, "the FRAME below THROWS it (without one: FAULTY): through five FRAMES", () -> {
            StepMachines x = Check.of("p0d1fy0;p1d2;p2d3;p3d4;p4t3;c000;n000;");
            dueFrame(x, 0, 0, 0, 3, 0, 1, 13);
            x = Check.of("p0d1;p1d2;p2d3;p3d4;p4t3;c000;n000;");
            dueCauses(x, 0, 3);
        });
        CHECK.says(9, "COUNT stays when a FRAME finishes", () -> {
            StepMachines x = Check.of("p0a1r2t1fr9y0;c000;n000;");
            dueFrame(x, 0, 0, 0, 6, 2, 1, 11);
        });
    }

    private static void causes() {
        CHECK.says(9, "a FAULT HELD is the CAUSE of the other, if that has none", () -> {
            dueCauses(Check.of("p0t1ft2;c000;n000;"), 0, 2, 1);
            for (String step : new String[] {"j0", "j1", "d5", "s3", "g3"}) {
                dueCauses(Check.of("p0t4f" + step + ";c000;n000;"), 0, 6, 4);
            }
            dueCauses(Check.of("p0y0;p1t4fj0;c000;c100;n000;n100;x0;"), 1, 5, 4);
            dueCauses(Check.of("p0y0d1;p1d2;p2d3;p3d4;p4d0;c000;n000;p0t4fd0;n000;"), 0, 7, 4);
        });
        CHECK.says(9, "a FAULT that has a CAUSE keeps it", () -> {
            // 1 holds 4, then joins 0, faulty by 2 by 1: 8 has a cause already.
            dueCauses(Check.of("p0t1ft2;p1t4fj0;c000;c100;n000;n100;"), 1, 8, 2, 1);
            // The 3 of the frame above has 2 as its cause when it comes to the frame that holds 1.
            dueCauses(Check.of("p0t1fd1;p1t2ft3;c000;n000;"), 0, 3, 2);
        });
        CHECK.says(9, "what it HELD: nothing is no CAUSE", () -> dueCauses(Check.of("p0ft2;c000;n000;"), 0, 2));
        CHECK.says(9, "CAUSES: its own, its CAUSE, and so on, of one and of those who joined", () -> {
            StepMachines x = Check.of("p0d1ft3;p1d2ft2;p2t0ft1;p3j0ft9;c000;c300;n100;n000;n100;");
            dueCauses(x, 0, 3, 2, 1, 0);
            dueCauses(x, 1, 9, 8, 3, 2, 1, 0);
        });
    }

    private static void closingRefused() {
        CHECK.says(10, "-1 no such COROUTINE", () -> {
            StepMachines x = Check.of("c000;");
            for (int c : new int[] {-1, 1, 8, MIN, MAX}) {
                due("close " + c, x.close(c), -1);
            }
        });
        CHECK.says(10, "-3 it is ENDED (DONE, FAULTY, CLOSED)", () -> {
            for (int state = 0; state < 9; state++) {
                due("state " + state, Check.of(IN_STATE[state]).close(0), state < 6 ? 8 : -3);
            }
        });
    }

    private static void closingFrames() {
        CHECK.says(10, "CLOSED, FINISHING: it HOLDS a CLOSE, if it HELD nothing", () -> {
            StepMachines x = Check.of("p0fy0a1;c000;n000;");
            due("state", x.close(0), 8);
            due("to its end", x.coroutine(0, 1), 1);
        });
        CHECK.says(10, "CLOSED, FINISHING with a FAULT HELD: that stays", () -> {
            StepMachines x = Check.of("p0t4fy0a1;c000;n000;");
            due("state", x.close(0), 7);
            due("to its end", x.coroutine(0, 1), 1);
            dueCauses(x, 0, 4);
        });
        CHECK.says(10, "CLOSED, an \"f\" at its STEP", () -> {
            StepMachines x = Check.of("p0fa3;c000;");
            due("a new one", x.close(0), 8);
            due("behind the f", x.coroutine(0, 1), 3);
            x = Check.of("p0y0fa3;c000;n000;");
            due("a paused one", x.close(0), 8);
            due("behind the f", x.coroutine(0, 1), 3);
        });
        CHECK.says(10, "CLOSED, an \"f\" behind its STEP: the last, nothing more", () -> {
            StepMachines x = Check.of("p0y0a1f;c000;n000;");
            due("state", x.close(0), 8);
            due("a passed over", x.coroutine(0, 1), 0);
        });
        CHECK.says(10, "CLOSED, no \"f\" at or behind: it goes, the FRAME below is CLOSED", () -> {
            StepMachines x = Check.of("p0d1a1fa5;p1z1fy1a2;c000;n000;");
            due("state", x.close(0), 8);
            due("behind the lower one's f", x.coroutine(0, 1), 5);
            due("no frame", x.coroutine(0, 9), 0);
        });
        CHECK.says(10, "(without one: the COROUTINE is CLOSED): six FRAMES", () -> {
            StepMachines x = Check.of("p0y0d1;p1d2;p2d3;p3d4;p4d0;c000;n000;p0y0;n000;");
            due("frames", x.coroutine(0, 9), 6);
            due("state", x.close(0), 8);
            due("frames", x.coroutine(0, 9), 0);
        });
        CHECK.says(10, "with a CLOSE HELD it goes, and the FRAME below is CLOSED: each finishes", () -> {
            StepMachines x = Check.of("p0d1fa1;p1d2fa1;p2d3fa1;p3d4fa1;p4y0fa1;c000;n000;");
            due("state", x.close(0), 8);
            due("all five", x.coroutine(0, 1), 5);
        });
        CHECK.says(10, "a FRAME below that is FINISHING goes on to its end, and HOLDS a CLOSE", () -> {
            StepMachines x = Check.of("p0fd1a4;p1y0;c000;n000;");
            due("state", x.close(0), 8);
            due("to its end", x.coroutine(0, 1), 4);
        });
    }

    private static void closingSteps() {
        CHECK.says(10, "in these STEPS \"y\", \"s\", \"g\", \"j\", \"d\", \"r\" do nothing", () -> {
            for (String letter : new String[] {"y", "s", "g", "j", "d", "r"}) {
                for (String n : new String[] {"0", "1", "9"}) {
                    StepMachines x = Check.of("p0y0f" + letter + n + "a3;c000;c000;n000;");
                    due(letter + n, x.close(0), 8);
                    due("acc", x.coroutine(0, 1), 3);
                    due("outs", x.coroutine(0, 3), 1);
                    due("waiting", x.count(4), 0);
                }
            }
        });
        CHECK.says(10, "in these STEPS \"a\", \"m\", \"z\" do what they do", () -> {
            StepMachines x = Check.of("p0y0fz2a9t9a3m4;c000;n000;");
            due("state", x.close(0), 8);
            due("acc", x.coroutine(0, 1), 12);
        });
        CHECK.says(10, "\"t\" in these STEPS: a CLOSE HELD is no CAUSE", () -> {
            StepMachines x = Check.of("p0y0ft9;c000;n000;");
            due("state", x.close(0), 7);
            dueCauses(x, 0, 9);
        });
        CHECK.says(10, "\"t\" in these STEPS: the FRAME below THROWS it, not FINISHING it HOLDS it", () -> {
            StepMachines x = Check.of("p0d1fa2;p1y0ft9;c000;n000;");
            due("state", x.close(0), 7);
            due("acc", x.coroutine(0, 1), 2);
            dueCauses(x, 0, 9);
        });
        CHECK.says(10, "it makes STEPS till it is ENDED: more than 40", () -> {
            String fourteen = "a1".repeat(14);
            StepMachines x = new StepMachines();
            for (String d : new String[] {"0d1", "1d2", "2y0", "3d0", "4d3"}) {
                due("program", Check.text(x, "p" + d + "f" + fourteen + ";"), 1);
            }
            Check.text(x, "c400;n000;");
            due("frames", x.coroutine(0, 9), 5);
            due("state", x.close(0), 8);
            due("70 a", x.coroutine(0, 1), 70);
        });
        CHECK.says(10, "CLOSING is no ROUND, and sends nothing", () -> {
            StepMachines x = Check.of("p0a5y0fa1;c059;c000;w1;l01;n000;n100;x0;");
            due("round", x.count(1), 1);
            due("acc", x.coroutine(0, 1), 6);
            due("age of the other", x.coroutine(1, 4), 1);
        });
    }

    private static void closingWaiting() {
        CHECK.says(10, "it is nowhere SENDING any more", () -> {
            StepMachines x = Check.of("p0s1fa1;p1g1;c000;c000;c100;n000;n100;x0;n200;");
            due("the other one met", x.coroutine(1, 0), 1);
            due("nobody there", x.channel(1, -1, 0), 0);
            due("closed", x.coroutine(0, 0), 8);
        });
        CHECK.says(10, "it is nowhere GETTING any more", () -> {
            StepMachines x = Check.of("p0g1fa1;p1a2s1;c000;c000;c100;n000;n100;x0;n200;");
            due("the other one met", x.coroutine(1, 1), 2);
            due("nobody there", x.channel(1, -1, 1), 0);
            due("its own acc", x.coroutine(0, 1), 1);
        });
        CHECK.says(10, "it is nowhere JOINING any more", () -> {
            StepMachines x = Check.of("p0y0;p1j0fa1;c000;c100;n000;n100;x1;x0;");
            due("closed", x.coroutine(1, 0), 8);
            due("acc", x.coroutine(1, 1), 1);
            due("waits", x.coroutine(1, 10), -4);
        });
        CHECK.says(10, "two JOINING one another: the other THROWS 5 as soon as one is ENDED", () -> {
            StepMachines x = Check.of("p0j1fa1;p1j0;c000;c100;n000;n100;");
            due("closed", x.close(0), 8);
            dueCauses(x, 1, 5);
        });
        CHECK.says(10, "As soon as a COROUTINE is ENDED: FAULTY by its finishing part, too", () -> {
            StepMachines x = Check.of("p0y0ft2;p1j0;c000;c100;n000;n100;x0;");
            dueCauses(x, 0, 2);
            dueCauses(x, 1, 8, 2);
        });
    }

    private static void widths() {
        CHECK.says(11, "WIDTH (1 .. 8)", () -> {
            StepMachines x = new StepMachines();
            for (int w : new int[] {0, 9, -1, MIN, MAX}) {
                due("width " + w, x.width(w), -1);
                due("stays", x.count(2), 8);
            }
            due("1", x.width(1), 8);
            due("8", x.width(8), 1);
            due("as it is", x.width(8), 8);
        });
    }

    private static void roundsRefused() {
        CHECK.says(12, "n ROUNDS (1 .. 60)", () -> {
            StepMachines x = Check.of("p0a1;c000;");
            for (int n : new int[] {0, 61, -1, MIN, MAX}) {
                due("rounds " + n, x.rounds(n), -1);
            }
            due("none went", x.count(1) + x.coroutine(0, 0), 0);
            due("1", x.rounds(1), 0);
            due("60", x.rounds(60), 1);
            due("round", x.count(1), 61);
        });
        CHECK.says(12, "refused (-3), if ROUND and n together are above 999; none of them goes then", () -> {
            StepMachines x = Check.of("l60;".repeat(16) + "c000;");
            due("960 and 40", x.rounds(40), -3);
            due("960 and 60", x.rounds(60), -3);
            due("round", x.count(1), 960);
            due("nobody went", x.coroutine(0, 0), 0);
            due("960 and 39", x.rounds(39), 1);
            due("round", x.count(1), 999);
            due("999 and 1", x.rounds(1), -3);
            due("-1 ahead of it", x.rounds(61), -1);
            due("-1 ahead of it", x.rounds(0), -1);
        });
        CHECK.says(12, "ROUND is 1 more, though nobody can go", () -> {
            StepMachines x = new StepMachines();
            due("none ended", x.rounds(60), 0);
            due("round", x.count(1), 60);
        });
        CHECK.says(12, "how many are ENDED", () -> {
            StepMachines x = Check.of("p1t1;p2y0;" + "c000;".repeat(4) + "c100;c100;c200;c200;x7;");
            due("seven", x.rounds(1), 7);
            due("all", x.rounds(1), 8);
        });
    }

    /** Bits of those who have yielded, of a program whose first step is "y". */
    private static int went(StepMachines x) {
        int bits = 0;
        for (int c = 0; c < x.count(0); c++) {
            bits |= x.coroutine(c, 3) > 0 ? 1 << c : 0;
        }
        return bits;
    }

    private static void roundsChoosing() {
        CHECK.says(12, "WIDTH of them are let go: 1 .. 8", () -> {
            for (int w = 1; w <= 8; w++) {
                due("width " + w, went(Check.of("p0y0y0;" + "c000;".repeat(8) + "w" + w + ";l01;")), (1 << w) - 1);
            }
        });
        CHECK.says(12, "WIDTH of them, if there are as many", () -> {
            StepMachines x = Check.of("p0y0y0;c000;c000;w8;l01;");
            due("both", went(x), 3);
            due("age", x.coroutine(1, 4), 0);
        });
        CHECK.says(12, "of most AGE and WEIGHT together, of several the least numbers", () -> {
            due("alike", went(Check.of("p0y0;c000;c041;c050;w1;l01;")), 1);
            due("1 more", went(Check.of("p0y0;c000;c011;w1;l01;")), 2);
            due("1 less", went(Check.of("p0y0;c021;c000;w1;l01;")), 2);
            due("loud 0 as eager 2", went(Check.of("p0y0;c012;c030;w1;l01;")), 1);
            due("loud 1 ahead of eager 2", went(Check.of("p0y0;c012;c031;w1;l01;")), 2);
            due("meek 3 (1 less) as shy 1", went(Check.of("p0y0;c043;c021;w1;l01;")), 1);
            due("meek 2 (1 less) behind meek 1 (0)", went(Check.of("p0y0;c042;c041;w1;l01;")), 2);
        });
        CHECK.says(12, "AGE counts: one that waited goes ahead of the other", () -> {
            StepMachines x = Check.of("p0y0y0y0;c000;c000;w1;l01;");
            due("the first", went(x), 1);
            x.rounds(1);
            due("both", went(x), 3);
            due("age of the first", x.coroutine(0, 4), 1);
            due("age of the second", x.coroutine(1, 4), 0);
            x = Check.of("p0" + "y0".repeat(9) + ";c012;c000;w1;l03;");
            due("0 and 2 ahead of 1, alike at 2 and 2", went(x), 1);
            x.rounds(1);
            due("3 ahead of 2", went(x), 3);
        });
        CHECK.says(12, "those that wait or ENDED are none of them", () -> {
            StepMachines x = Check.of("p0g0;p1;p2y0;c009;c109;c200;n000;n100;w1;l01;");
            due("the third", x.coroutine(2, 3), 1);
            due("age of one that waits", x.coroutine(0, 4), 0);
            due("age of one ended", x.coroutine(1, 4), 0);
        });
    }

    private static void roundsGoing() {
        CHECK.says(12, "one PAUSED is sent 0 (as SENT tells), then each makes one STEP", () -> {
            int[] wants = {1, 8, 1, 8, 1, 6};
            for (int kind = 0; kind < 6; kind++) {
                StepMachines x = Check.of("p0a5y0a1a1;c0" + kind + "7;n000;l01;");
                due("kind " + kind, x.coroutine(0, 1), wants[kind]);
                due("ready", x.coroutine(0, 0), 1);
                x.rounds(1);
                due("a ready one is sent nothing", x.coroutine(0, 1), wants[kind] + 1);
            }
        });
        CHECK.says(12, "each makes one STEP: a NEW one is READY then", () -> {
            StepMachines x = Check.of("p0a1a1;c019;l01;");
            due("ready", x.coroutine(0, 0), 1);
            due("one step", x.coroutine(0, 1), 1);
        });
        CHECK.says(12, "each one goes whole ahead of the next one", () -> {
            StepMachines x = Check.of("p0g0;p1s0;c000;c100;c100;l01;");
            due("0 has got of 1", x.coroutine(0, 0), 1);
            due("1 need not wait", x.coroutine(1, 0), 1);
            due("2 finds nobody any more", x.coroutine(2, 0), 3);
            x = Check.of("p0g0;p1s0;c000;c119;l01;");
            due("1 ahead of 0: nobody is there yet, and 0 finds it", x.coroutine(1, 0), 1);
            due("0 need not wait", x.coroutine(0, 0), 1);
            due("nobody is left there", x.channel(0, -1, 0) + x.channel(0, -1, 1), 0);
        });
        CHECK.says(12, "one that becomes READY in it by another one isn't let go in it, and its AGE stays", () -> {
            StepMachines x = Check.of("p0y0g0y0;p1s0;c000;c009;c100;w1;l02;");
            due("age before it waits", x.coroutine(0, 4), 1);
            x.send(0, 0);
            due("it waits with that age", x.coroutine(0, 0), 4);
            x.rounds(1);
            due("age of the one it waits for", x.coroutine(2, 4), 0);
            due("ready", x.coroutine(0, 0), 1);
            due("its age stays", x.coroutine(0, 4), 1);
            due("not let go", x.coroutine(0, 3), 1);
        });
        CHECK.says(12, "their AGES are 0, those of the others of these 1 more", () -> {
            StepMachines x = Check.of("p0a0a0a0a0a0;p1g0;" + "c000;".repeat(3) + "c100;n300;w2;l01;");
            int[] once = {0, 0, 1, 0};
            int[] twice = {0, 1, 0, 0};
            for (int c = 0; c < 4; c++) {
                due("age of " + c, x.coroutine(c, 4), once[c]);
            }
            x.rounds(1);
            for (int c = 0; c < 4; c++) {
                due("age of " + c, x.coroutine(c, 4), twice[c]);
            }
        });
        CHECK.says(12, "the oldest that can be: a SHY one behind seven LOUD ones", () -> {
            StepMachines x = Check.of("p0d1r9;p1d2r9;p2d3r9;p3a0r9;" + "c039;".repeat(7) + "c029;w1;");
            int most = 0;
            for (int i = 0; i < 60; i++) {
                x.rounds(1);
                most = Math.max(most, x.coroutine(7, 4));
            }
            // Seven take turns at 11 and 6: 9 less and 26 is as much but of the last number, 27 is more.
            due("most age", most, 27);
        });
    }
}
