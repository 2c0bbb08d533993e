import java.util.Random;

/**
 * Calls by lot with any arguments on one object: none may throw but element() where it must, a
 * refused one and one in mind may change nothing, and the same calls give the same answers.
 */
public final class AnyCallsTest {
    private static final Check CHECK = new Check();
    private static final int[] ODD = {Integer.MIN_VALUE, Integer.MAX_VALUE, -1000, -5, -2, -1, 1000, 101, 61, 41, 21};
    private final Random lot;
    private final StepMachines x = new StepMachines();

    private AnyCallsTest(int seed) {
        lot = new Random(seed);
    }

    public static void main(String[] args) {
        for (int seed = 0; seed < 400; seed++) {
            CHECK.due("seed " + seed + " once more", new AnyCallsTest(seed).run(), new AnyCallsTest(seed).run());
        }
        CHECK.end("AnyCallsTest");
    }

    private long run() {
        long told = 0;
        for (int k = 0; k < 512; k++) {
            long before = state();
            int which = lot.nextInt(60);
            long answer;
            try {
                answer = call(which);
            } catch (IllegalArgumentException e) {
                answer = which == 33 ? -100 : thrownWrongly(which, e);
            } catch (IllegalStateException e) {
                answer = which == 33 ? -101 : thrownWrongly(which, e);
            } catch (RuntimeException e) {
                answer = thrownWrongly(which, e);
            }
            boolean changes = which < 6 || which > 33 || which == 28 || which == 30;
            if (!changes || answer < 0 && which < 39) {
                CHECK.due("call " + which + " that answers " + answer + " changes nothing", state(), before);
            }
            told = told * 31 + answer;
        }
        return told;
    }

    private static long thrownWrongly(int which, RuntimeException e) {
        CHECK.due("call " + which + " throws " + e, 1, 0);
        return -102;
    }

    private int any(int below) {
        return lot.nextInt(12) == 0 ? ODD[lot.nextInt(ODD.length)] : lot.nextInt(below + 1);
    }

    private long call(int which) {
        int c = any(8);
        int what = any(2);
        int n = any(60);
        switch (which) {
            case 0: return x.send(c, any(999));
            case 1: return lot.nextInt(3) == 0 ? x.close(c) : 0;
            case 2: return x.width(c);
            case 3: return x.rounds(lot.nextInt(3) == 0 ? n : 2);
            case 4: return x.comes(any(4), any(7));
            case 5: return x.text(any(7));
            case 6: return x.program(any(4), any(16), what);
            case 7: return x.coroutine(c, any(11));
            case 8: return x.frame(c, any(6), any(4));
            case 9: return x.cause(c, what);
            case 10: return x.channel(any(2), any(3) - 1, what);
            case 11: return x.then(c, n, any(4));
            case 12: return x.ends(c);
            case 13: return x.stuck(what);
            case 14: return x.leastWidth(n);
            case 15: return x.closeBest(n);
            case 16: return x.sendBest(c, what);
            case 17: return x.firstOut();
            case 18: return x.whatProgram(any(7));
            case 19: return x.alike(any(4), any(4), any(20));
            case 20: return x.two(c, any(8), any(40));
            case 21: return x.lost(c, any(7), any(20), what);
            case 22: return x.share(what);
            case 23: return x.forged(any(7));
            case 24: return x.judge(any(7));
            case 25: return x.lots(any(20), lot.nextInt(), what);
            case 26: return x.count(any(5));
            case 27: return x.cost(any(7));
            case 28: return lot.nextInt(3) == 0 ? x.restore() : 0;
            case 29: return x.toss(any(7));
            case 30: return x.copy(any(7), any(20), any(7), any(20), any(50));
            case 31: return x.put(any(7), 101, 5);
            case 32: return x.row(any(7), any(2), -1 - lot.nextInt(5));
            case 33: return x.element(any(7), any(9));
            case 34: return x.image();
            case 35: return x.keep(any(7), any(1), any(5), any(9));
            case 36: return x.row(any(7), any(2), any(100));
            case 37: return x.put(any(7), any(20), lot.nextInt());
            case 38: return x.put(any(7), any(20), Integer.MIN_VALUE);
            default: return text();
        }
    }

    private long text() {
        String letters = "yamzrdtsgjydjr";
        StringBuilder told = new StringBuilder();
        for (int i = lot.nextInt(4); i >= 0; i--) {
            told.append('p').append(lot.nextInt(5));
            for (int k = lot.nextInt(9); k > 0; k--) {
                told.append(letters.charAt(lot.nextInt(letters.length()))).append(lot.nextInt(5));
            }
            told.append(lot.nextInt(3) == 0 ? "f;" : ";");
        }
        if (lot.nextInt(3) == 0) {
            told.append("c000;");
        }
        return told.length() > 100 ? 0 : Check.text(x, told.toString());
    }

    private long state() {
        long told = 0;
        for (int what = 0; what < 6; what++) {
            told = told * 31 + x.count(what);
        }
        for (int c = 0; c < x.count(0); c++) {
            for (int what = 0; what < 12; what++) {
                told = told * 31 + x.coroutine(c, what);
            }
            for (int i = 0; i < x.coroutine(c, 9); i++) {
                for (int what = 0; what < 5; what++) {
                    told = told * 31 + x.frame(c, i, what);
                }
            }
            for (int i = 0; i < x.coroutine(c, 11); i++) {
                told = told * 31 + x.cause(c, i);
            }
        }
        for (int p = 0; p < 5; p++) {
            for (int i = 0; i < x.program(p, -1, 0); i++) {
                told = told * 31 + x.program(p, i, 0) * 10 + x.program(p, i, 1);
            }
        }
        for (int ch = 0; ch < 6; ch++) {
            told = told * 31 + x.channel(ch / 2, -1, ch % 2);
            for (int i = 0; i < x.channel(ch / 2, -1, ch % 2); i++) {
                told = told * 31 + x.channel(ch / 2, i, ch % 2);
            }
        }
        for (int d = 0; d < 8; d++) {
            told = told * 31 + shelf(d);
        }
        return told;
    }

    private long shelf(int d) {
        long told = x.cost(d) * 1000L + x.toss(d);
        try {
            for (int i = 0; i <= 100; i++) {
                told = told * 31 + x.element(d, i);
            }
        } catch (IllegalStateException e) {
            return told;
        }
        return told;
    }
}
