import java.math.BigInteger;
import java.util.ArrayList;
import java.util.List;

/** What is asked in mind, told plainly by whole copies of a Plainly. */
final class PlainlyInMind {
    private PlainlyInMind() { }

    static int ends(Plainly x, int c) {
        for (int n = 0; n <= 60; n++) {
            if (x.on(n).cos.get(c).ended()) {
                return n;
            }
        }
        return -4;
    }

    static int stuck(Plainly x, int what) {
        for (int n = 0; n <= 60; n++) {
            Plainly then = x.on(n);
            if (then.bits(Plainly.Co::able) == 0) {
                return what == 0 ? n : then.bits(c -> !c.ended());
            }
        }
        return -4;
    }

    static int leastWidth(Plainly x, int n) {
        for (int w = 1; w <= 8; w++) {
            Plainly tried = x.copied();
            tried.width = w;
            if (tried.on(n).ended() == x.cos.size()) {
                return w;
            }
        }
        return -4;
    }

    private static int othersDone(Plainly x, int c) {
        return Integer.bitCount(x.bits(o -> o.number != c && o.state == Plainly.DONE));
    }

    static int closeBest(Plainly x, int n) {
        int best = -4;
        int most = -1;
        for (Plainly.Co c : x.cos) {
            if (!c.ended()) {
                Plainly tried = x.copied();
                tried.close(c.number);
                int done = othersDone(tried.on(n), c.number);
                if (done > othersDone(x.on(n), c.number) && done > most) {
                    most = done;
                    best = c.number;
                }
            }
        }
        return best;
    }

    static int sendBest(Plainly x, int c, int what) {
        int best = -1;
        int greatest = Integer.MIN_VALUE;
        for (int v = 0; v <= 20; v++) {
            Plainly tried = x.copied();
            tried.send(c, v);
            int out = tried.cos.get(c).out;
            if (out > greatest) {
                greatest = out;
                best = v;
            }
        }
        return what == 0 ? best : greatest;
    }

    static int firstOut(Plainly x) {
        Plainly tried = x.copied();
        for (int n = 1; n <= 60; n++) {
            tried.yielders.clear();
            tried.round(false);
            if (!tried.yielders.isEmpty()) {
                return java.util.Collections.min(tried.yielders);
            }
        }
        return -4;
    }

    static int whatProgram(Plainly x, int[] told, int skipped) {
        if (x.cos.size() == 8) {
            return -2;
        }
        int bits = 0;
        for (int p = 0; p < 5; p++) {
            Plainly tried = x.copied();
            Plainly.Co c = tried.cos.get(tried.come(p, 0, 0));
            boolean so = true;
            for (int i = 0; i < told.length && so; i++) {
                tried.send(c.number, 0);
                so = c.state == Plainly.PAUSED && (told[i] == skipped || told[i] == c.out);
            }
            bits |= so ? 1 << p : 0;
        }
        return bits;
    }

    static int alike(Plainly x, int p, int q, int n) {
        return x.cos.size() == 8 ? -2 : told(x, p, n).equals(told(x, q, n)) ? 1 : 0;
    }

    private static List<Integer> told(Plainly x, int p, int n) {
        Plainly tried = x.copied();
        Plainly.Co c = tried.cos.get(tried.come(p, 0, 0));
        List<Integer> told = new ArrayList<>();
        for (int i = 0; i < n && c.able(); i++) {
            tried.send(c.number, 0);
            told.add(c.state);
            told.add(c.out);
        }
        return told;
    }

    private static int gain(Plainly x, int a, int b, int ca, int cb, int n, boolean ofTheOne) {
        Plainly tried = x.copied();
        if (ca == 1) {
            tried.close(a);
        }
        if (cb == 1 && !tried.cos.get(b).ended()) {
            tried.close(b);
        }
        Plainly then = tried.on(n);
        Plainly.Co one = then.cos.get(ofTheOne ? a : b);
        Plainly.Co other = then.cos.get(ofTheOne ? b : a);
        return one.outs - 2 * (ofTheOne ? ca : cb) - (other.state == Plainly.FAULTY ? 6 : 0);
    }

    static int two(Plainly x, int a, int b, int n) {
        for (int ca = 0; ca < 2; ca++) {
            for (int cb = 0; cb < 2; cb++) {
                if (gain(x, a, b, ca, cb, n, true) >= gain(x, a, b, 1 - ca, cb, n, true)
                    && gain(x, a, b, ca, cb, n, false) >= gain(x, a, b, ca, 1 - cb, n, false)) {
                    return 10 * ca + cb;
                }
            }
        }
        return -4;
    }

    static long lost(Plainly x, int c, int n, int t, int part) {
        BigInteger above = BigInteger.ZERO;
        BigInteger below = BigInteger.valueOf(t).pow(n);
        for (int lost = 0; lost < 1 << n; lost++) {
            Plainly tried = x.copied();
            for (int i = 0; i < n; i++) {
                tried.round((lost >> i & 1) == 1);
            }
            if (tried.cos.get(c).ended()) {
                above = above.add(BigInteger.valueOf(t - 1).pow(n - Integer.bitCount(lost)));
            }
        }
        BigInteger divisor = above.gcd(below);
        return (part == 0 ? above : below).divide(divisor).longValueExact();
    }

    static int judge(Plainly x, int[] told, int skipped) {
        for (int i = 0; i < told.length; i++) {
            if (told[i] != skipped && told[i] != x.on(i).ended()) {
                return i;
            }
        }
        return -4;
    }

    static int lots(Plainly x, int n, int z, int what) {
        int together = 0;
        int drawn = z;
        for (int i = 0; i < n && !x.cos.isEmpty(); i++) {
            Plainly tried = x.copied();
            for (int k = 0; k < 6; k++) {
                drawn = drawn * 1103515245 + 12345;
                int c = (drawn & 0x7fffffff) / 65536 % x.cos.size();
                drawn = drawn * 1103515245 + 12345;
                int v = (drawn & 0x7fffffff) / 65536 % 100;
                if (tried.cos.get(c).able()) {
                    tried.send(c, v);
                }
            }
            Plainly then = tried.on(5);
            together += what == 0 ? then.outs() - x.outs() : then.ended();
        }
        return together;
    }
}
