/** Promises 1 to 12: programs, coroutines and their steps, told by hand from the document. */
public final class ProgramsTest {
    private static final Check CHECK = new Check();

    public static void main(String[] args) {
        aNewObject();
        textsAndTheirFaults();
        statementsNotAsTheyMustBe();
        programsTold();
        coming();
        coroutinesTold();
        manners();
        plainSteps();
        goingBackAndOver();
        frames();
        framesKeepTheirPrograms();
        faults();
        causes();
        channels();
        joins();
        joinersInTheirOrder();
        sendings();
        closings();
        widths();
        roundsAndAges();
        roundsRefused();
        mostFaults();
        CHECK.end("ProgramsTest");
    }

    private static void due(String call, long got, long want) {
        CHECK.due(call, got, want);
    }

    private static void dueText(String told, int want) {
        due("text " + told, Check.text(new StepMachines(), told), want);
    }

    private static void dueOf(StepMachines x, int c, String name, int... wants) {
        for (int what = 0; what < wants.length; what++) {
            due(name + " coroutine " + c + " what " + what, x.coroutine(c, what), wants[what]);
        }
    }

    private static void dueFrame(StepMachines x, int c, int i, String name, int... wants) {
        for (int what = 0; what < wants.length; what++) {
            due(name + " frame " + i + " what " + what, x.frame(c, i, what), wants[what]);
        }
    }

    private static void dueChannel(StepMachines x, int ch, int what, String name, int... who) {
        due(name + " many", x.channel(ch, -1, what), who.length);
        for (int i = 0; i < who.length; i++) {
            due(name + " at " + i, x.channel(ch, i, what), who[i]);
        }
        due(name + " nobody", x.channel(ch, who.length, what), -1);
    }

    private static void aNewObject() {
        StepMachines x = new StepMachines();
        int[] wants = {0, 0, 8, 0, 0, 0};
        for (int what = 0; what < wants.length; what++) {
            due("new count " + what, x.count(what), wants[what]);
        }
        for (int p = 0; p < 5; p++) {
            due("new program", x.program(p, -1, 0), 0);
        }
        for (int ch = 0; ch < 3; ch++) {
            dueChannel(x, ch, 0, "new senders");
            dueChannel(x, ch, 1, "new getters");
        }
        due("new coroutine", x.coroutine(0, 0), -1);
        due("new shelf", x.text(0), -11);
        due("new restore", x.restore(), -3);
    }

    private static void textsAndTheirFaults() {
        dueText("w1;", 1);
        dueText("p0;", 1);
        dueText("p0y1y2;c000;n012;x0;w3;l09;", 6);
        dueText("", -1000);
        dueText("q", -1000);
        dueText(";", -1000);
        dueText("w", -1001);
        dueText("w1", -1002);
        dueText("w1:", -1002);
        dueText("w11;", -1002);
        dueText("wa;", -1001);
        dueText("w1;;", -1003);
        dueText("w1;w", -1004);
        dueText("c00;", -1003);
        dueText("c0000;", -1004);
        dueText("c00", -1003);
        dueText("n0 1;", -1002);
        dueText("n012", -1004);
        dueText("x00;", -1002);
        dueText("l1;", -1002);
        dueText("l111;", -1003);
        dueText("p", -1001);
        dueText("py1;", -1001);
        dueText("p0", -1002);
        dueText("p0y", -1003);
        dueText("p0y;", -1003);
        dueText("p0yf;", -1003);
        dueText("p0f1;", -1003);
        dueText("p0ff", -1004);
        dueText("p0b1;", -1002);
        dueText("p0Y1;", -1002);
        dueText("p01;", -1002);
        dueText("p0a1m2z3r4d5t6s7g8j9y0f;", 1);
        // Kind 1 anywhere goes ahead of kind 2.
        dueText("w9;q", -1003);
        dueText("p0ff;w1", -1007);
        StepMachines x = new StepMachines();
        Check.onShelf(x, 0, 0, 'w', '1', ';', 0);
        due("a byte 0", x.text(0), -1003);
        Check.onShelf(x, 0, 0, 'w', 200, ';');
        due("a byte below 0", x.text(0), -1001);
        due("no such shelf", x.text(8), -1);
        due("no such shelf", x.text(-1), -1);
        due("nothing held", x.text(1), -11);
        x.keep(1, 1, 0, 0);
        due("a manner", x.text(1), -12);
        Check.onShelf(x, 1, 1, 'w', '1', ';');
        due("shorts", x.text(1), -12);
        Check.onShelf(x, 1, 2, 'w', '1', ';');
        due("ints", x.text(1), -12);
        Check.onShelf(x, 1, 0, 'w', '1', ';');
        due("the row stays", x.text(1) + x.text(1), 2);
    }

    private static void statementsNotAsTheyMustBe() {
        dueText("w0;", -2000);
        dueText("w9;", -2000);
        dueText("w8;", 1);
        dueText("w1;w9;", -2003);
        dueText("p5;", -2000);
        dueText("p4;", 1);
        dueText("c500;", -2000);
        dueText("c460;", -2000);
        dueText("c459;", 1);
        dueText("n000;", -2000);
        dueText("c000;n100;", -2005);
        dueText("c000;n000;n000;", -2010);
        dueText("p0s0;c000;n000;n000;", -2015);
        dueText("x0;", -2000);
        dueText("c000;x0;x0;", -2008);
        dueText("l00;", -2000);
        dueText("l61;", -2000);
        dueText("l60;", 1);
        dueText("p0ff;", -2000);
        dueText("p0fa1f;", -2000);
        dueText("p0" + "a1".repeat(16) + ";", 1);
        dueText("p0" + "a1".repeat(17) + ";", -2000);
        dueText("p0" + "a1".repeat(15) + "f;", 1);
        dueText("p0" + "a1".repeat(16) + "f;", -2000);
        dueText("c000;".repeat(8), 8);
        dueText("c000;".repeat(9), -2040);
        // With a fault nothing comes, not even what was done ahead of it.
        StepMachines x = new StepMachines();
        due("a faulty text", Check.text(x, "p0y1;c000;w3;l05;w9;"), -2017);
        due("no coroutine", x.count(0), 0);
        due("no round", x.count(1), 0);
        due("no width", x.count(2), 8);
        due("no program", x.program(0, -1, 0), 0);
        // Each is tried on what those ahead of it made.
        due("all of it", Check.text(x, "w3;p0y1;c000;p0a1;c000;n000;l02;"), 7);
        due("the width", x.count(2), 3);
        due("the rounds", x.count(1), 2);
        due("a step of the new program", x.coroutine(1, 1), 1);
        due("sent to", x.coroutine(0, 3), 1);
        String rounds = "l60;".repeat(16);
        due("960 rounds", Check.text(x, rounds), 16);
        due("above 999", Check.text(x, "l30;l08;"), -2004);
        due("999", Check.text(x, "l30;l07;"), 2);
        due("round", x.count(1), 999);
        due("above 999", Check.text(x, "l01;"), -2000);
    }

    private static void programsTold() {
        StepMachines x = Check.of("p2y1fj9;");
        due("steps", x.program(2, -1, 0), 3);
        due("steps, what 1", x.program(2, -1, 1), 3);
        due("letter", x.program(2, 0, 0), 'y');
        due("number", x.program(2, 0, 1), 1);
        due("f", x.program(2, 1, 0), 'f');
        due("number of f", x.program(2, 1, 1), 0);
        due("letter", x.program(2, 2, 0), 'j');
        due("number", x.program(2, 2, 1), 9);
        due("no such step", x.program(2, 3, 0), -1);
        due("no such step", x.program(2, -2, 0), -1);
        due("no such program", x.program(5, -1, 0), -1);
        due("no such program", x.program(-1, -1, 0), -1);
        due("what", x.program(2, 0, 2), -1);
        due("what", x.program(2, 0, -1), -1);
        due("becomes", Check.text(x, "p2a3;"), 1);
        due("steps", x.program(2, -1, 0), 1);
        due("letter", x.program(2, 0, 0), 'a');
    }

    private static void coming() {
        StepMachines x = new StepMachines();
        x.keep(0, 1, 3, 7);
        x.row(1, 0, 3);
        due("no such program", x.comes(5, 0), -1);
        due("no such program", x.comes(-1, 0), -1);
        due("no such shelf", x.comes(0, 8), -1);
        due("no such shelf", x.comes(0, -1), -1);
        due("nothing held", x.comes(0, 2), -11);
        due("a row", x.comes(0, 1), -12);
        for (int c = 0; c < 8; c++) {
            due("comes", x.comes(c % 5, 0), c);
        }
        due("no room", x.comes(0, 0), -2);
        due("no such program ahead", x.comes(5, 0), -1);
        due("nothing held ahead", x.comes(0, 2), -11);
        due("a row ahead", x.comes(0, 1), -12);
        due("the manner stays", x.cost(0), 4);
        dueOf(x, 7, "comes", 0, 0, -4, 0, 0, 2, 3, 7, 109, 1, -4, 0);
    }

    private static void coroutinesTold() {
        StepMachines x = Check.of("p0a5y2s1;p1j0y1;c050;c113;n000;n100;");
        dueOf(x, 0, "paused", 2, 5, 7, 1, 0, 0, 5, 0, 100, 1, -4, 0);
        dueOf(x, 1, "joining", 5, 0, -4, 0, 0, 1, 1, 3, 103, 1, 0, 0);
        x.send(0, 0);
        dueOf(x, 0, "sending", 3, 5, 7, 1, 0, 0, 5, 0, 100, 1, 1, 0);
        due("what", x.coroutine(0, 12), -1);
        due("what", x.coroutine(0, -1), -1);
        due("no such one", x.coroutine(2, 0), -1);
        due("no such one", x.coroutine(-1, 0), -1);
    }

    /** ACC 9 yields with 8; then 4 is sent, and it yields once more. */
    private static void manners() {
        int[][] wants = {
            {100, 17, 4, 0}, {107, 17, 11, 7}, {93, 8, 4, 0}, {109, 24, 11, 7}, {97, 8, 4, 0}, {100, 17, 4, 4}};
        for (int kind = 0; kind < 6; kind++) {
            StepMachines x = Check.of("p0a9y8y0a0y0;c0" + kind + "7;n000;");
            due("weight " + kind, x.coroutine(0, 8), wants[kind][0]);
            due("yields " + kind, x.coroutine(0, 2), wants[kind][1]);
            x.send(0, 4);
            due("sent " + kind, x.coroutine(0, 1), wants[kind][2]);
            x.send(0, 0);
            due("sent 0 " + kind, x.coroutine(0, 1), wants[kind][3]);
        }
        StepMachines x = Check.of("p0y0y9;c039;c015;c021;c041;n000;n100;");
        x.send(0, 995);
        due("sent modulo 1000", x.coroutine(0, 1), 4);
        x.send(1, 999);
        due("sent modulo 1000", x.coroutine(1, 1), 4);
        due("weight of a shy one", x.coroutine(2, 8), 99);
        due("weight of a meek one", x.coroutine(3, 8), 100);
        Check.text(x, "p1y0y9;c139;c119;c129;n400;n500;n600;");
        x.send(4, 981);
        due("loud: 990 and 9, and 9 once more", x.coroutine(4, 2), 8);
        x.send(6, 999);
        due("shy: 1008 modulo 1000 by 2", x.coroutine(6, 2), 4);
    }

    private static void plainSteps() {
        StepMachines x = Check.of("p0y0a9y0m9m9m9y1a9y9;c000;n000;");
        x.send(0, 995);
        due("a modulo 1000", x.coroutine(0, 1), 4);
        x.send(0, 7);
        due("m modulo 1000", x.coroutine(0, 1), 7 * 729 % 1000);
        due("y leaves acc", x.coroutine(0, 2), 7 * 729 % 1000 + 1);
        x.send(0, 985);
        due("y modulo 1000", x.coroutine(0, 2), 3);
        due("outs", x.coroutine(0, 3), 4);
        due("behind the last step", x.frame(0, 0, 1), 9);
        due("paused there", x.coroutine(0, 0), 2);
        due("ends", x.send(0, 33), 6);
        dueOf(x, 0, "done", 6, 33, 3, 4, 0, 0, 0, 0, 100, 0, -4, 0);
        // One step a round; an ended frame is a step of its own.
        x = Check.of("p0a1;c000;c100;");
        due("an empty program ends at once", x.rounds(1), 1);
        due("ready", x.coroutine(0, 0), 1);
        due("the last step", x.rounds(1), 2);
    }

    private static void goingBackAndOver() {
        StepMachines x = Check.of("p0a1r3y0r3y5;c000;n000;");
        due("three times back", x.coroutine(0, 1), 4);
        due("count", x.frame(0, 0, 2), 3);
        x.send(0, 7);
        due("not back again", x.coroutine(0, 2), 12);
        x = Check.of("p0r0y1;c000;n000;");
        due("r0 goes on", x.coroutine(0, 2), 1);
        due("r0 counts nothing", x.frame(0, 0, 2), 0);
        x = Check.of("p0fa1r3y0;c000;n000;");
        due("not back while finishing", x.coroutine(0, 1), 1);
        due("count stays", x.frame(0, 0, 2), 0);
        x = Check.of("p0z2y1y2y3z2y4y5;c000;n000;");
        due("passes over", x.coroutine(0, 2), 3);
        x.send(0, 6);
        due("does not pass over", x.coroutine(0, 2), 10);
        x = Check.of("p0z9y1;c000;");
        due("passes over all", x.send(0, 0), 6);
        x = Check.of("p0z0y1;c000;n000;");
        due("passes over none", x.coroutine(0, 2), 1);
        // 40 steps at most.
        x = Check.of("p0a1a1a1a1r9y0;c000;");
        due("still ready", x.send(0, 1), 1);
        due("40 steps", x.coroutine(0, 1), 32);
        due("then paused", x.send(0, 500), 2);
        due("v of one ready is left", x.coroutine(0, 1), 40);
    }

    private static void frames() {
        StepMachines x = Check.of("p0d1y0;p1a2d2;p2y1;c000;n000;");
        due("three frames", x.coroutine(0, 9), 3);
        dueFrame(x, 0, 0, "base", 0, 1, 0, 0, 0);
        dueFrame(x, 0, 1, "middle", 1, 2, 0, 0, 0);
        dueFrame(x, 0, 2, "top", 2, 1, 0, 0, 0);
        due("no such frame", x.frame(0, 3, 0), -1);
        due("no such frame", x.frame(0, -1, 0), -1);
        due("no such one", x.frame(1, 0, 0), -1);
        due("no such one", x.frame(-1, 0, 0), -1);
        due("what", x.frame(0, 0, 5), -1);
        due("what", x.frame(0, 0, -1), -1);
        x.send(0, 4);
        due("goes on below", x.coroutine(0, 2), 4);
        due("one frame", x.coroutine(0, 9), 1);
        due("ends", x.send(0, 0), 6);
        due("no frame", x.frame(0, 0, 0), -1);
        x = Check.of("p0d0;c000;n000;");
        dueOf(x, 0, "a seventh frame", 7, 0, -4, 0, 0, 0, 0, 0, 100, 0, -4, 1);
        due("throws 7", x.cause(0, 0), 7);
        x = Check.of("p0d5;p1d1d9;c000;n000;");
        due("throws 6", x.cause(0, 0), 6);
        x = Check.of("p0d1;p1d2;p2d3;p3d4;p4d0;c000;n000;");
        due("six frames, then 7", x.cause(0, 0), 7);
        x = Check.of("p0d1;p1d2;p2d3;p3d4;p4y7d9;c000;n000;");
        due("5 frames", x.coroutine(0, 9), 5);
        x.send(0, 0);
        due("no such program throws 6 in the fifth", x.cause(0, 0), 6);
        x = Check.of("p0d1;p1d2;p2d3;p3d4;p4d4;c000;n000;p4z1d4y7d9;");
        due("7 by d4", x.cause(0, 0), 7);
        x = Check.of("p0a1d1;p1d2;p2d3;p3d4;p4y0d3;c000;n000;p3y0d9;");
        x.send(0, 1);
        due("6 frames", x.coroutine(0, 9), 6);
        x.send(0, 1);
        due("7 goes ahead of 6", x.cause(0, 0), 7);
    }

    private static void framesKeepTheirPrograms() {
        StepMachines x = Check.of("p0y1d1y2;p1y3;c000;n000;");
        Check.text(x, "p0a1;p1y4;");
        x.send(0, 0);
        due("a frame that comes has the new program", x.coroutine(0, 2), 4);
        x.send(0, 0);
        due("one that came before keeps its own", x.coroutine(0, 2), 2);
        due("the new program", x.program(0, -1, 0), 1);
    }

    private static void faults() {
        StepMachines x = Check.of("p0t3y1;c000;");
        due("throws", x.send(0, 0), 7);
        due("one fault", x.coroutine(0, 11), 1);
        due("its code", x.cause(0, 0), 3);
        due("no such fault", x.cause(0, 1), -1);
        due("no such fault", x.cause(0, -1), -1);
        due("no such one", x.cause(1, 0), -1);
        due("no such one", x.cause(-1, 0), -1);
        x = Check.of("p0t3y1fy2y3;c000;n000;");
        due("goes on behind f", x.coroutine(0, 2), 2);
        dueFrame(x, 0, 0, "held", 0, 4, 0, 1, 13);
        due("not faulty yet", x.cause(0, 0), -1);
        due("no faults yet", x.coroutine(0, 11), 0);
        x.send(0, 0);
        due("then faulty", x.send(0, 0), 7);
        due("with what it held", x.cause(0, 0), 3);
        x = Check.of("p0ft3y1;c000;");
        due("finishing: nothing holds it", x.send(0, 0), 7);
        x = Check.of("p0t0f;c000;n000;");
        due("code 0", x.cause(0, 0), 0);
        x = Check.of("p0d1y1fy2;p1d2fa1;p2t4;c000;n000;");
        dueFrame(x, 0, 0, "held below", 0, 4, 0, 1, 14);
        due("the middle finished too", x.coroutine(0, 1), 1);
        due("frames", x.coroutine(0, 9), 1);
        x = Check.of("p0z2fy1t5y2;c000;n000;");
        due("an f passed over is not looked for", x.coroutine(0, 0), 7);
        x = Check.of("p0d1y6;p1fy2;c000;n000;");
        due("a frame finishing without a held thing", x.frame(0, 1, 3), 1);
        x.send(0, 0);
        due("goes, and the one below goes on", x.coroutine(0, 2), 6);
        // The f right behind the step that throws.
        x = Check.of("p0t5fy1;c000;n000;");
        dueFrame(x, 0, 0, "f at the next step", 0, 3, 0, 1, 15);
    }

    private static void causes() {
        StepMachines x = Check.of("p0t1ft2;c000;n000;");
        due("two faults", x.coroutine(0, 11), 2);
        due("the second", x.cause(0, 0), 2);
        due("by the first", x.cause(0, 1), 1);
        due("no more", x.cause(0, 2), -1);
        x = Check.of("p0d1ft3;p1t1ft2;c000;n000;");
        due("three faults", x.coroutine(0, 11), 3);
        due("the last", x.cause(0, 0), 3);
        due("its cause", x.cause(0, 1), 2);
        due("the first", x.cause(0, 2), 1);
        // What has a cause takes no other.
        x = Check.of("p0t1ft2;p1t3fj0;c000;c100;n000;n100;");
        due("thrown 8", x.cause(1, 0), 8);
        due("with the joined one's", x.cause(1, 1), 2);
        due("and its cause", x.cause(1, 2), 1);
        due("not what it held", x.coroutine(1, 11), 3);
        x = Check.of("p0t1fd1;p1t2;c000;n000;");
        due("a frame above throws", x.cause(0, 0), 2);
        due("by what the lower one held", x.cause(0, 1), 1);
    }

    private static void channels() {
        StepMachines x = Check.of("p0a5s1y1;p1a7s1y2;p2g1y0;c000;c100;c200;n000;n100;");
        dueChannel(x, 1, 0, "senders", 0, 1);
        dueChannel(x, 1, 1, "getters");
        due("sending", x.coroutine(0, 0), 3);
        due("on", x.coroutine(0, 10), 1);
        due("gets and yields", x.send(2, 0), 2);
        due("what the first sends", x.coroutine(2, 2), 5);
        dueOf(x, 0, "the sender", 1, 5, -4, 0, 0, 0, 0, 0, 100, 1, -4, 0);
        dueChannel(x, 1, 0, "senders", 1);
        x = Check.of("p0g0y0;p1a4s0y9;c000;c000;c100;c100;c100;n000;n100;");
        dueChannel(x, 0, 1, "getters", 0, 1);
        due("getting", x.coroutine(1, 0), 4);
        due("on", x.coroutine(1, 10), 0);
        due("the sender goes on", x.send(2, 0), 2);
        due("it keeps its own", x.coroutine(2, 2), 13);
        dueOf(x, 0, "the first getter", 1, 4, -4, 0);
        dueOf(x, 1, "the second waits", 4, 0, -4, 0);
        x.send(3, 0);
        due("another sender", x.coroutine(1, 1), 4);
        due("no getter any more", x.send(4, 0), 3);
        x = Check.of("p0s3;p1g3;c000;c100;n000;n100;");
        due("no such channel throws 6", x.cause(0, 0), 6);
        due("no such channel throws 6", x.cause(1, 0), 6);
        x = Check.of("p0s2;p1g2;c000;n000;c100;n100;");
        due("a channel 2", x.coroutine(0, 0), 1);
        due("no such channel", x.channel(3, -1, 0), -1);
        due("no such channel", x.channel(-1, -1, 0), -1);
        due("no such place", x.channel(0, -2, 0), -1);
        due("what", x.channel(0, -1, 2), -1);
        due("what", x.channel(0, -1, -1), -1);
        // A manner does not change what is got.
        x = Check.of("p0g0y0;p1a4s0;c019;c139;n000;n100;");
        due("just as it is", x.coroutine(0, 1), 4);
        // One who waits can't be sent to, and no round lets it go.
        x = Check.of("p0g0;c000;n000;");
        due("waits", x.send(0, 1), -3);
        x.rounds(5);
        due("still", x.coroutine(0, 0), 4);
        due("its age stays", x.coroutine(0, 4), 0);
    }

    private static void joins() {
        StepMachines x = Check.of("p0a7y1;p1j0y0;c000;c100;n000;n100;");
        due("joining", x.coroutine(1, 0), 5);
        due("whom", x.coroutine(1, 10), 0);
        due("ends", x.send(0, 9), 6);
        dueOf(x, 1, "has the result", 1, 9, -4, 0, 0, 1, 0, 0, 100, 1, -4, 0);
        due("goes on", x.send(1, 0), 2);
        x = Check.of("p0a7;p1j0y0;c000;n000;c100;n100;");
        due("one done already", x.coroutine(1, 2), 7);
        x = Check.of("p0t7;p1j0y0;c000;n000;c100;n100;");
        due("one faulty already", x.cause(1, 0), 8);
        due("with its fault", x.cause(1, 1), 7);
        x = Check.of("p0t7;p1j0y0fy5;c000;x0;c100;n100;");
        dueFrame(x, 1, 0, "one closed already", 1, 4, 0, 1, 15);
        x = Check.of("p0y0;p1j0y0fy5;c000;n000;c100;n100;x0;");
        dueFrame(x, 1, 0, "one closed then", 1, 3, 0, 1, 15);
        due("and is ready", x.coroutine(1, 0), 1);
        x = Check.of("p0j0;c000;n000;");
        due("itself", x.cause(0, 0), 6);
        x = Check.of("p0j1;c000;n000;");
        due("no such one", x.cause(0, 0), 6);
        x = Check.of("p0j1;p1j0;c000;c100;n000;n100;");
        due("both wait", x.count(4), 3);
        due("one is closed", x.close(0), 8);
        due("the other throws 5", x.cause(1, 0), 5);
    }

    /** 0 is closed: 2 and 4 join it, 3 joins 2 and getting told goes ahead of 4; 1 joins 3. */
    private static void joinersInTheirOrder() {
        StepMachines x = Check.of("p0y0;p1j0;p2j2;p3j3;c000;c300;c100;c200;c100;n000;n100;n200;n300;n400;");
        due("all wait", x.count(4), 30);
        due("closed", x.close(0), 8);
        due("all ended", x.count(3), 31);
        due("2", x.cause(2, 0), 5);
        due("3", x.cause(3, 0), 8);
        due("3 by 2", x.cause(3, 1), 5);
        due("1", x.coroutine(1, 11), 3);
        due("1 by 3 by 2", x.cause(1, 2), 5);
        due("4", x.coroutine(4, 11), 1);
        x = Check.of("p0t2;p1j0fy3t1;c000;c100;c100;n100;n200;l01;");
        due("both hold 8", x.frame(1, 0, 4) + x.frame(2, 0, 4), 36);
        due("ready in this round, not let go", x.coroutine(1, 3), 0);
        x.rounds(3);
        due("8 is the cause of 1", x.cause(1, 0) * 100 + x.cause(1, 1) * 10 + x.cause(1, 2), 182);
    }

    private static void sendings() {
        StepMachines x = Check.of("p0y1y2;c000;");
        due("to a new one", x.send(0, 5), 2);
        due("a new one leaves v", x.coroutine(0, 1), 0);
        due("to a paused one", x.send(0, 999), 2);
        due("has it", x.coroutine(0, 1), 999);
        due("below 0", x.send(0, -1), -1);
        due("above 999", x.send(0, 1000), -1);
        due("no such one", x.send(1, 0), -1);
        due("no such one", x.send(-1, 0), -1);
        due("ends", x.send(0, 0), 6);
        due("ended", x.send(0, 0), -3);
        due("a number first", x.send(0, 1000), -1);
        due("age stays", x.coroutine(0, 4), 0);
    }

    private static void closings() {
        StepMachines x = Check.of("p0y1y2;c000;c000;n000;");
        due("paused", x.close(0), 8);
        dueOf(x, 0, "closed", 8, 0, 1, 1, 0, 0, 0, 0, 100, 0, -4, 0);
        due("new", x.close(1), 8);
        due("ended", x.close(0), -3);
        due("no such one", x.close(2), -1);
        due("no such one", x.close(-1), -1);
        x = Check.of("p0y1fa1y2s0g0j0d0r9m3;c000;n000;");
        due("finishes", x.close(0), 8);
        due("some steps do nothing", x.coroutine(0, 1), 3);
        due("nothing yielded", x.coroutine(0, 3), 1);
        due("nowhere sending", x.channel(0, -1, 0), 0);
        x = Check.of("p0y1fz1t2a5;c000;n000;");
        due("z in closing", x.close(0), 8);
        due("a in closing", x.coroutine(0, 1), 5);
        x = Check.of("p0y1ft2;c000;n000;");
        due("throws in closing", x.close(0), 7);
        due("a close is no cause", x.coroutine(0, 11), 1);
        x = Check.of("p0d1fa1;p1y1fa2;c000;n000;");
        due("each frame finishes", x.close(0), 8);
        due("both", x.coroutine(0, 1), 3);
        x = Check.of("p0d1y1;p1y1ft4;c000;n000;");
        due("a fault goes down", x.close(0), 7);
        x = Check.of("p0d1ft5;p1y1ft4;c000;n000;");
        due("the lower one holds it", x.close(0), 7);
        due("and throws by it", x.cause(0, 0) * 10 + x.cause(0, 1), 54);
        x = Check.of("p0t3fy1a2;c000;n000;");
        due("a held fault stays", x.close(0), 7);
        due("that one", x.cause(0, 0), 3);
        due("it went to its end", x.coroutine(0, 1), 2);
        x = Check.of("p0fy1a2;c000;n000;");
        due("finishing without a held thing", x.close(0), 8);
        due("it went to its end", x.coroutine(0, 1), 2);
        x = Check.of("p0t3fd1a2;p1y1;c000;n000;");
        due("a frame above a held fault", x.close(0), 7);
        x = Check.of("p0g1;p1j0;p2s2;c000;c100;c200;n000;n100;n200;");
        due("getting", x.close(0), 8);
        due("nobody there", x.channel(1, -1, 1), 0);
        due("the joining one threw", x.coroutine(1, 0), 7);
        due("sending", x.close(2), 8);
        due("nobody there", x.channel(2, -1, 0), 0);
        x = Check.of("p0g1;c000;c000;c000;n000;n100;n200;x1;");
        dueChannel(x, 1, 1, "the others stay in their order", 0, 2);
        x = Check.of("p0y1;p1j0;c000;c100;n000;n100;x1;");
        due("joining", x.coroutine(1, 0), 8);
        due("waits for none", x.coroutine(1, 10), -4);
        due("the joined one goes on", x.send(0, 0), 6);
    }

    private static void widths() {
        StepMachines x = new StepMachines();
        due("the old", x.width(3), 8);
        due("the old", x.width(1), 3);
        due("0", x.width(0), -1);
        due("9", x.width(9), -1);
        due("stays", x.width(8), 1);
        due("8", x.count(2), 8);
    }

    private static void roundsAndAges() {
        StepMachines x = Check.of("p0y1r9y2;c000;c000;c000;w1;");
        due("one goes", x.rounds(1), 0);
        dueOf(x, 0, "the least", 2, 0, 1, 1, 0);
        dueOf(x, 1, "older", 0, 0, -4, 0, 1);
        dueOf(x, 2, "older", 0, 0, -4, 0, 1);
        x.rounds(1);
        dueOf(x, 1, "the next", 2, 0, 1, 1, 0);
        dueOf(x, 0, "older", 2, 0, 1, 1, 1);
        dueOf(x, 2, "older", 0, 0, -4, 0, 2);
        x.rounds(1);
        dueOf(x, 2, "the last", 2, 0, 1, 1, 0);
        due("one step", x.coroutine(0, 3), 1);
        x.rounds(1);
        dueOf(x, 0, "back, not yet out again", 1, 0, 1, 1, 0);
        x = Check.of("p0y1y2;c000;c013;c029;w1;l01;");
        due("an eager one goes first", x.coroutine(1, 3), 1);
        x.rounds(2);
        due("and again, 3 ahead of 2", x.coroutine(1, 3), 2);
        due("the plain one", x.coroutine(0, 3), 0);
        due("its age", x.coroutine(0, 4), 3);
        x = Check.of("p0y1;c033;c019;c015;w2;l01;");
        due("9 goes", x.coroutine(1, 3), 1);
        due("2 and 3 goes, by its number", x.coroutine(0, 3), 1);
        due("5 does not", x.coroutine(2, 3), 0);
        // By that order: the heavier one takes what a sender left before the lighter comes.
        x = Check.of("p0a6s0;p1g0;c000;n000;c100;c119;l01;");
        due("the heavier one", x.coroutine(2, 1), 6);
        due("the lighter one waits", x.coroutine(1, 0), 4);
        due("the sender is ready, not let go", x.coroutine(0, 0), 1);
        due("and its age stays", x.coroutine(0, 4), 0);
        // One paused is sent 0, as its manner has it.
        x = Check.of("p0y1y2;c000;c014;c054;n000;n100;n200;");
        x.send(2, 8);
        x.rounds(1);
        due("plain", x.coroutine(0, 2), 2);
        due("eager", x.coroutine(1, 2), 6);
        due("sturdy", x.coroutine(2, 1), 8);
        x = Check.of("p0;p1t1;p2y1;c000;c100;c200;");
        due("how many are ended", x.rounds(1), 2);
        due("round", x.count(1), 1);
    }

    private static void roundsRefused() {
        StepMachines x = Check.of("p0a1r9a1r9;c000;");
        due("0", x.rounds(0), -1);
        due("61", x.rounds(61), -1);
        due("below 0", x.rounds(-5), -1);
        due("60", x.rounds(60), 1);
        Check.text(x, "l60;".repeat(15));
        due("960", x.count(1), 960);
        due("40 more", x.rounds(40), -3);
        due("none of them went", x.count(1), 960);
        due("a number first", x.rounds(61), -1);
        due("39 more", x.rounds(39), 1);
        due("999", x.count(1), 999);
        due("1 more", x.rounds(1), -3);
    }

    /** Each frame is thrown at twice by the one above it: 64 faults of each of eight. */
    private static void mostFaults() {
        String told = "p0d0fd0;" + "c000;".repeat(8);
        StepMachines x = Check.of(told);
        x.image();
        for (int again = 0; again < 3; again++) {
            Plainly y = new Plainly();
            y.text(told.chars().toArray());
            for (int k = 0; k < 600 && y.ended() < 8; k += 60) {
                y = y.on(60);
                x.rounds(60);
            }
            for (int c = 0; c < 8; c++) {
                Plainly.Fault fault = y.cos.get(c).fault;
                int many = 0;
                for (; fault != null; many++) {
                    due("most faults", x.cause(c, many), fault.code());
                    fault = fault.cause();
                }
                due("most faults, how many", x.coroutine(c, 11), many);
            }
            due("all ended", x.count(3), 255);
            x.restore();
        }
    }
}
