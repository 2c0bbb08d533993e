import java.util.Arrays;

/** Coroutines as step machines; README.md tells how to use them. */
public final class StepMachines {
    private static final int SHELVES = 8;
    private static final int PROGRAMS = 5;
    private static final int MOST_STEPS = 16;
    private static final int COROUTINES = 8;
    private static final int FRAMES = 6;
    private static final int CHANNELS = 3;
    private static final int MOST_WIDTH = 8;
    private static final int MOST_ROUNDS = 60;
    private static final int MOST_ROUNDS_OF_CHOICES = 40;
    private static final int MOST_LOST_ROUNDS = 7;
    private static final int MOST_SENT_IN_MIND = 20;
    private static final int MOST_ELEMENTS = 100;
    private static final int MOST = 999;
    private static final int MODULUS = 1000;
    private static final int STEPS_OF_A_SENDING = 40;
    private static final int STEPS_OF_A_CLOSING = 1000;

    private static final int NO_SUCH_ONE = -1;
    private static final int NO_ROOM = -2;
    private static final int NOT_AS_IT_MUST_BE = -3;
    private static final int NONE = -4;
    private static final int NOTHING_HELD = -11;
    private static final int OTHER_KIND = -12;
    private static final int NO_SUCH_PLACE = -13;
    private static final int SIZE_BELOW_ZERO = -14;
    private static final int NO_FAILURE = -15;
    private static final int REFUSED_LONG = 1000000000;

    private static final int PLAIN = 0;
    private static final int EAGER = 1;
    private static final int SHY = 2;
    private static final int LOUD = 3;
    private static final int MEEK = 4;
    private static final int STURDY = 5;

    private static final int NEW = 0;
    private static final int READY = 1;
    private static final int PAUSED = 2;
    private static final int SENDING = 3;
    private static final int GETTING = 4;
    private static final int JOINING = 5;
    private static final int DONE = 6;
    private static final int FAULTY = 7;
    private static final int CLOSED = 8;

    private static final int HELD_NOTHING = -2;
    private static final int HELD_CLOSE = -1;
    private static final int NO_FAULT = -1;

    // A frame throws twice at most (once into its finishing part, once away), and each
    // time by a frame above it: 2 to the 6th faults of each of 8 coroutines, no more.
    private static final int MOST_FAULTS = 512;

    private static final int CODE_CLOSED = 5;
    private static final int CODE_NO_SUCH = 6;
    private static final int CODE_TOO_DEEP = 7;
    private static final int CODE_FAULTY = 8;

    private static final int BYTES = 0;
    private static final int SHORTS = 1;
    private static final int INTS = 2;
    private static final int LEAST_BYTE = -128;
    private static final int LEAST_SHORT = -32768;
    private static final int LEAST_INT = 0x80000000;
    private static final int ALL_BUT_THE_SIGN = 0x7fffffff;

    private final Machine now = new Machine();
    private final Machine kept = new Machine();
    // What is tried in mind is tried in these; each round of lost() has one of its own.
    private final Machine[] minds = new Machine[MOST_LOST_ROUNDS + 1];
    private final Manner[] manners = new Manner[SHELVES];
    private final Row[] rows = new Row[SHELVES];
    private final Manner plain = new Manner(PLAIN, 0);
    private boolean imageTaken = false;
    private int seed = 0;

    public StepMachines() {
        for (int i = 0; i < minds.length; i++) {
            minds[i] = new Machine();
        }
    }

    // ---- programs, coroutines

    public int text(int d) {
        int refusal = refusalOfRow(d);
        if (refusal != 0) {
            return refusal;
        }
        if (rows[d].kind != BYTES) {
            return OTHER_KIND;
        }
        Text told = new Text(rows[d]);
        int statements = told.statements();
        if (statements < 0) {
            return statements;
        }
        Machine mind = mindOfNow();
        int place = 0;
        for (int i = 0; i < statements; i++) {
            if (!told.isDone(place, mind)) {
                return -2000 - place;
            }
            place = told.behindStatement(place);
        }
        now.become(mind);
        return statements;
    }

    public int program(int p, int i, int what) {
        if (!isProgram(p) || what < 0 || what > 1) {
            return NO_SUCH_ONE;
        }
        Program told = now.programs[p];
        if (i == -1) {
            return told.length();
        }
        if (i < 0 || i >= told.length()) {
            return NO_SUCH_ONE;
        }
        return what == 0 ? told.letter(i) : told.number(i);
    }

    public int comes(int p, int d) {
        if (!isProgram(p)) {
            return NO_SUCH_ONE;
        }
        int refusal = refusalOfManner(d);
        if (refusal != 0) {
            return refusal;
        }
        return now.add(p, manners[d]);
    }

    public int coroutine(int c, int what) {
        if (!isCoroutine(c) || what < 0 || what > 11) {
            return NO_SUCH_ONE;
        }
        Coroutine one = now.coroutines[c];
        switch (what) {
            case 5:
                return one.program;
            case 6:
                return one.manner.kind;
            case 7:
                return one.manner.figure;
            case 8:
                return one.manner.weight() + 100;
            case 9:
                return one.depth;
            case 10:
                return one.waitsFor;
            case 11:
                return now.faultsOf(c);
            default:
                return one.figureTold(what);
        }
    }

    public int frame(int c, int i, int what) {
        if (!isCoroutine(c) || what < 0 || what > 4) {
            return NO_SUCH_ONE;
        }
        Coroutine one = now.coroutines[c];
        if (i < 0 || i >= one.depth) {
            return NO_SUCH_ONE;
        }
        Frame told = one.frames[i];
        switch (what) {
            case 0:
                return told.number;
            case 1:
                return told.step;
            case 2:
                return told.count;
            case 3:
                return told.finishing ? 1 : 0;
            default:
                return heldTold(told.held);
        }
    }

    public int cause(int c, int i) {
        if (!isCoroutine(c) || i < 0 || i >= now.faultsOf(c)) {
            return NO_SUCH_ONE;
        }
        int fault = now.coroutines[c].fault;
        for (int k = 0; k < i; k++) {
            fault = now.causeOf(fault);
        }
        return now.codeOf(fault);
    }

    public int channel(int ch, int i, int what) {
        if (ch < 0 || ch >= CHANNELS || what < 0 || what > 1) {
            return NO_SUCH_ONE;
        }
        Queue there = what == 0 ? now.senders[ch] : now.getters[ch];
        if (i == -1) {
            return there.size;
        }
        return i < 0 || i >= there.size ? NO_SUCH_ONE : there.who[i];
    }

    public int send(int c, int v) {
        if (!isCoroutine(c) || v < 0 || v > MOST) {
            return NO_SUCH_ONE;
        }
        if (!now.coroutines[c].canGo()) {
            return NOT_AS_IT_MUST_BE;
        }
        now.sendTo(c, v);
        return now.coroutines[c].state;
    }

    public int close(int c) {
        if (!isCoroutine(c)) {
            return NO_SUCH_ONE;
        }
        if (now.coroutines[c].isEnded()) {
            return NOT_AS_IT_MUST_BE;
        }
        now.closeDown(c);
        return now.coroutines[c].state;
    }

    public int width(int w) {
        if (w < 1 || w > MOST_WIDTH) {
            return NO_SUCH_ONE;
        }
        int old = now.width;
        now.width = w;
        return old;
    }

    public int rounds(int n) {
        if (n < 1 || n > MOST_ROUNDS) {
            return NO_SUCH_ONE;
        }
        if (now.round + n > MOST) {
            return NOT_AS_IT_MUST_BE;
        }
        for (int i = 0; i < n; i++) {
            now.makeRound();
        }
        return Integer.bitCount(now.endedBits());
    }

    // ---- rounds on

    public int then(int c, int n, int what) {
        if (!isCoroutine(c) || n < 0 || n > MOST_ROUNDS || what < 0 || what > 4) {
            return NO_SUCH_ONE;
        }
        Machine mind = mindOfNow();
        mind.makeRounds(n);
        return mind.coroutines[c].figureTold(what);
    }

    public int ends(int c) {
        if (!isCoroutine(c)) {
            return NO_SUCH_ONE;
        }
        Machine mind = mindOfNow();
        for (int n = 0; n <= MOST_ROUNDS; n++) {
            if (mind.coroutines[c].isEnded()) {
                return n;
            }
            mind.makeRound();
        }
        return NONE;
    }

    public int stuck(int what) {
        if (what < 0 || what > 1) {
            return NO_SUCH_ONE;
        }
        Machine mind = mindOfNow();
        for (int n = 0; n <= MOST_ROUNDS; n++) {
            if (mind.ableBits() == 0) {
                return what == 0 ? n : mind.allBits() & ~mind.endedBits();
            }
            mind.makeRound();
        }
        return NONE;
    }

    public int leastWidth(int n) {
        if (n < 0 || n > MOST_ROUNDS) {
            return NO_SUCH_ONE;
        }
        for (int w = 1; w <= MOST_WIDTH; w++) {
            Machine mind = mindOfNow();
            mind.width = w;
            mind.makeRounds(n);
            if (mind.endedBits() == mind.allBits()) {
                return w;
            }
        }
        return NONE;
    }

    public int closeBest(int n) {
        if (n < 0 || n > MOST_ROUNDS_OF_CHOICES) {
            return NO_SUCH_ONE;
        }
        Machine mind = mindOfNow();
        mind.makeRounds(n);
        int without = mind.doneBits();
        int best = NONE;
        int most = -1;
        for (int c = 0; c < now.count; c++) {
            if (!now.coroutines[c].isEnded()) {
                int others = othersDone(c, n);
                if (others > Integer.bitCount(without & ~(1 << c)) && others > most) {
                    most = others;
                    best = c;
                }
            }
        }
        return best;
    }

    public int sendBest(int c, int what) {
        if (!isCoroutine(c) || what < 0 || what > 1) {
            return NO_SUCH_ONE;
        }
        if (!now.coroutines[c].canGo()) {
            return NOT_AS_IT_MUST_BE;
        }
        int best = 0;
        int greatest = NONE;
        for (int v = 0; v <= MOST_SENT_IN_MIND; v++) {
            Machine mind = mindOfNow();
            mind.sendTo(c, v);
            if (mind.coroutines[c].out > greatest) {
                greatest = mind.coroutines[c].out;
                best = v;
            }
        }
        return what == 0 ? best : greatest;
    }

    public int firstOut() {
        Machine mind = mindOfNow();
        for (int n = 0; n < MOST_ROUNDS; n++) {
            mind.yielded = 0;
            mind.makeRound();
            for (int c = 0; c < mind.count; c++) {
                if ((mind.yielded >> c & 1) == 1) {
                    return c;
                }
            }
        }
        return NONE;
    }

    // ---- which program, two

    public int whatProgram(int d) {
        int refusal = refusalOfRow(d);
        if (refusal != 0) {
            return refusal;
        }
        if (now.count >= COROUTINES) {
            return NO_ROOM;
        }
        int bits = 0;
        for (int p = 0; p < PROGRAMS; p++) {
            if (yieldsAll(p, rows[d])) {
                bits |= 1 << p;
            }
        }
        return bits;
    }

    public int alike(int p, int q, int n) {
        if (!isProgram(p) || !isProgram(q) || p == q || n < 0 || n > MOST_SENT_IN_MIND) {
            return NO_SUCH_ONE;
        }
        if (now.count >= COROUTINES) {
            return NO_ROOM;
        }
        Machine mind = mindOfNow();
        Machine otherMind = minds[1];
        otherMind.become(now);
        int c = mind.add(p, plain);
        otherMind.add(q, plain);
        Coroutine one = mind.coroutines[c];
        Coroutine other = otherMind.coroutines[c];
        for (int i = 0; i < n && one.canGo() && other.canGo(); i++) {
            mind.sendTo(c, 0);
            otherMind.sendTo(c, 0);
            if (one.state != other.state || one.out != other.out) {
                return 0;
            }
        }
        return 1;
    }

    public int two(int a, int b, int n) {
        if (!isCoroutine(a) || !isCoroutine(b) || a == b || n < 0 || n > MOST_ROUNDS_OF_CHOICES) {
            return NO_SUCH_ONE;
        }
        if (now.coroutines[a].isEnded() || now.coroutines[b].isEnded()) {
            return NOT_AS_IT_MUST_BE;
        }
        int[] ones = new int[4];
        int[] others = new int[4];
        for (int pair = 0; pair < 4; pair++) {
            Machine mind = mindOfNow();
            closeIf(mind, a, pair >> 1);
            closeIf(mind, b, pair & 1);
            mind.makeRounds(n);
            ones[pair] = gain(mind.coroutines[a], mind.coroutines[b], pair >> 1);
            others[pair] = gain(mind.coroutines[b], mind.coroutines[a], pair & 1);
        }
        for (int pair = 0; pair < 4; pair++) {
            if (ones[pair] >= ones[pair ^ 2] && others[pair] >= others[pair ^ 1]) {
                return 10 * (pair >> 1) + (pair & 1);
            }
        }
        return NONE;
    }

    public long lost(int c, int n, int t, int part) {
        if (!isCoroutine(c) || n < 0 || n > MOST_LOST_ROUNDS || t < 2 || t > 20 || part < 0 || part > 1) {
            return REFUSED_LONG - NO_SUCH_ONE;
        }
        minds[0].become(now);
        return inLeastTerms(waysEnded(minds, 0, n, c, t), power(t, n), part);
    }

    public long share(int part) {
        if (part < 0 || part > 1) {
            return REFUSED_LONG - NO_SUCH_ONE;
        }
        int all = now.count == 0 ? 1 : now.count;
        return inLeastTerms(Integer.bitCount(now.endedBits()), all, part);
    }

    // ---- told states, runs by lot

    public int forged(int d) {
        int refusal = refusalOfRow(d);
        if (refusal != 0) {
            return refusal;
        }
        Row told = rows[d];
        for (int i = 0; i < told.size(); i++) {
            if (!isCoroutine(i) || now.coroutines[i].state != told.at(i)) {
                return i;
            }
        }
        return NONE;
    }

    public int judge(int d) {
        int refusal = refusalOfRow(d);
        if (refusal != 0) {
            return refusal;
        }
        Row told = rows[d];
        int skipped = told.leastNumber();
        Machine mind = mindOfNow();
        for (int i = 0; i < told.size(); i++) {
            int ended = Integer.bitCount(mind.endedBits());
            if (told.at(i) != skipped && told.at(i) != ended) {
                return i;
            }
            mind.makeRound();
        }
        return NONE;
    }

    public int lots(int n, int z, int what) {
        if (n < 1 || n > 20 || what < 0 || what > 1) {
            return NO_SUCH_ONE;
        }
        if (now.count == 0) {
            return 0;
        }
        seed = z;
        int together = 0;
        for (int i = 0; i < n; i++) {
            Machine mind = mindOfNow();
            runByLot(mind);
            together += what == 0 ? mind.outsOfAll() - now.outsOfAll() : Integer.bitCount(mind.endedBits());
        }
        return together;
    }

    // ---- the image, what is told

    public int image() {
        kept.become(now);
        imageTaken = true;
        return now.round;
    }

    public int restore() {
        if (!imageTaken) {
            return NOT_AS_IT_MUST_BE;
        }
        now.become(kept);
        return now.round;
    }

    public int count(int what) {
        switch (what) {
            case 0:
                return now.count;
            case 1:
                return now.round;
            case 2:
                return now.width;
            case 3:
                return now.endedBits();
            case 4:
                return now.allBits() & ~now.endedBits() & ~now.ableBits();
            case 5:
                return now.outsOfAll();
            default:
                return NO_SUCH_ONE;
        }
    }

    // ---- shelves

    public int keep(int d, int what, int k, int figure) {
        if (!isShelf(d) || what < 0 || what > 1) {
            return NO_SUCH_ONE;
        }
        if (what == 1 && (k < PLAIN || k > STURDY || figure < 0 || figure > 9)) {
            return NO_SUCH_ONE;
        }
        rows[d] = null;
        manners[d] = what == 1 ? new Manner(k, figure) : null;
        return 0;
    }

    public int row(int d, int sort, int n) {
        if (!isShelf(d) || sort < BYTES || sort > INTS || n > MOST_ELEMENTS) {
            return NO_SUCH_ONE;
        }
        if (n < 0) {
            return SIZE_BELOW_ZERO;
        }
        manners[d] = null;
        rows[d] = new Row(sort, n);
        return 0;
    }

    public int put(int d, int i, int v) {
        int refusal = refusalOfRow(d);
        if (refusal != 0) {
            return refusal;
        }
        if (!rows[d].has(i)) {
            return NO_SUCH_PLACE;
        }
        rows[d].become(i, v);
        return 0;
    }

    public long element(int d, int i) throws IllegalArgumentException, IllegalStateException {
        if (!isShelf(d)) {
            throw new IllegalArgumentException("no such shelf");
        }
        if (rows[d] == null) {
            throw new IllegalStateException("no row");
        }
        if (!rows[d].has(i)) {
            throw new IllegalStateException("no such place");
        }
        return rows[d].at(i);
    }

    public int copy(int d, int i, int e, int j, int n) {
        if (!isShelf(d) || !isShelf(e)) {
            return NO_SUCH_ONE;
        }
        if (holdsNothing(d) || holdsNothing(e)) {
            return NOTHING_HELD;
        }
        Row from = rows[d];
        Row to = rows[e];
        if (from == null || to == null || from.kind != to.kind) {
            return OTHER_KIND;
        }
        if (!from.hasPart(i, n) || !to.hasPart(j, n)) {
            return NO_SUCH_PLACE;
        }
        System.arraycopy(from.elements, i, to.elements, j, n);
        return n;
    }

    public int cost(int d) {
        int refusal = refusalOfManner(d);
        return refusal != 0 ? refusal : manners[d].price();
    }

    public int toss(int d) {
        int refusal = refusalOfManner(d);
        if (refusal != 0) {
            return refusal;
        }
        try {
            manners[d].fail();
            return NO_FAILURE;
        } catch (IllegalStateException failure) {
            return manners[d].failure();
        }
    }

    // ---- what the calls share

    private static boolean isShelf(int d) {
        return d >= 0 && d < SHELVES;
    }

    private static boolean isProgram(int p) {
        return p >= 0 && p < PROGRAMS;
    }

    private boolean isCoroutine(int c) {
        return c >= 0 && c < now.count;
    }

    private boolean holdsNothing(int d) {
        return rows[d] == null && manners[d] == null;
    }

    /** 0 if a row is on the shelf. */
    private int refusalOfRow(int d) {
        if (!isShelf(d)) {
            return NO_SUCH_ONE;
        }
        if (rows[d] != null) {
            return 0;
        }
        return manners[d] == null ? NOTHING_HELD : OTHER_KIND;
    }

    /** 0 if a manner is on the shelf. */
    private int refusalOfManner(int d) {
        if (!isShelf(d)) {
            return NO_SUCH_ONE;
        }
        if (manners[d] != null) {
            return 0;
        }
        return rows[d] == null ? NOTHING_HELD : OTHER_KIND;
    }

    private int heldTold(int held) {
        if (held == HELD_NOTHING) {
            return 0;
        }
        return held == HELD_CLOSE ? 1 : 10 + now.codeOf(held);
    }

    private Machine mindOfNow() {
        minds[0].become(now);
        return minds[0];
    }

    /** How many others are done behind n rounds, if this one is closed now. */
    private int othersDone(int c, int n) {
        Machine mind = mindOfNow();
        mind.closeDown(c);
        mind.makeRounds(n);
        return Integer.bitCount(mind.doneBits() & ~(1 << c));
    }

    private boolean yieldsAll(int p, Row told) {
        Machine mind = mindOfNow();
        int c = mind.add(p, plain);
        Coroutine one = mind.coroutines[c];
        int skipped = told.leastNumber();
        for (int i = 0; i < told.size(); i++) {
            mind.sendTo(c, 0);
            if (one.state != PAUSED) {
                return false;
            }
            if (told.at(i) != skipped && told.at(i) != one.out) {
                return false;
            }
        }
        return true;
    }

    private static void closeIf(Machine mind, int c, int choice) {
        // The other's closing may have ended it already.
        if (choice == 1 && !mind.coroutines[c].isEnded()) {
            mind.closeDown(c);
        }
    }

    private static int gain(Coroutine one, Coroutine other, int choice) {
        return one.outs - 2 * choice - (other.state == FAULTY ? 6 : 0);
    }

    /** In how many of t to the power of left ways the coroutine is ended behind the rounds left. */
    private static long waysEnded(Machine[] levels, int level, int left, int c, int t) {
        Machine mind = levels[level];
        if (mind.coroutines[c].isEnded()) {
            return power(t, left);
        }
        if (left <= 0 || level + 1 >= levels.length || mind.ableBits() == 0) {
            return 0;
        }
        Machine next = levels[level + 1];
        next.become(mind);
        next.makeRound();
        long ways = (t - 1) * waysEnded(levels, level + 1, left - 1, c, t);
        next.become(mind);
        next.loseRound();
        return ways + waysEnded(levels, level + 1, left - 1, c, t);
    }

    private static long power(int base, int times) {
        long product = 1;
        for (int i = 0; i < times; i++) {
            product *= base;
        }
        return product;
    }

    private static long inLeastTerms(long above, long below, int part) {
        long divisor = below;
        long rest = above;
        for (int i = 0; i < 1000 && rest != 0; i++) {
            long next = divisor % rest;
            divisor = rest;
            rest = next;
        }
        if (divisor == 0) {
            return 0;
        }
        return (part == 0 ? above : below) / divisor;
    }

    private void runByLot(Machine mind) {
        for (int k = 0; k < 6; k++) {
            int c = draw(mind.count);
            int v = draw(100);
            if (mind.coroutines[c].canGo()) {
                mind.sendTo(c, v);
            }
        }
        mind.makeRounds(5);
    }

    private int draw(int below) {
        seed = seed * 1103515245 + 12345;
        return below <= 0 ? 0 : (seed & ALL_BUT_THE_SIGN) / 65536 % below;
    }

    /** A kind with a figure: how a coroutine yields, takes in what is sent, and is weighed. */
    private static final class Manner {
        final int kind;
        final int figure;

        Manner(int kind, int figure) {
            this.kind = kind;
            this.figure = figure;
        }

        int weight() {
            switch (kind) {
                case EAGER:
                    return figure;
                case LOUD:
                    return figure + 2;
                case SHY:
                    return -figure;
                case MEEK:
                    return -figure / 2;
                default:
                    return 0;
            }
        }

        int yields(int u) {
            switch (kind) {
                case LOUD:
                    return (u + figure) % MODULUS;
                case SHY:
                case MEEK:
                    return u / 2;
                default:
                    return u;
            }
        }

        /** What acc becomes when v is sent. */
        int takes(int v, int acc) {
            switch (kind) {
                case EAGER:
                case LOUD:
                    return (v + figure) % MODULUS;
                case STURDY:
                    return v == 0 ? acc : v;
                default:
                    return v;
            }
        }

        int price() {
            switch (kind) {
                case EAGER:
                    return 1;
                case LOUD:
                    return 4;
                case SHY:
                    return 2 * figure;
                case MEEK:
                    return 0;
                case STURDY:
                    return figure + 2;
                default:
                    return figure;
            }
        }

        /** Throws its failure, if it has one. */
        void fail() {
            if (figure != 0 && kind != SHY && kind != MEEK) {
                throw new IllegalStateException("a failure");
            }
        }

        int failure() {
            switch (kind) {
                case EAGER:
                case LOUD:
                    return figure + 100;
                case STURDY:
                    return 200 + price();
                default:
                    return figure;
            }
        }
    }

    /** Steps that never change: a frame keeps those it came with. */
    private static final class Program {
        private final int[] codes;
        final int finish;

        /** A code is ten times the letter and the number; finish is the place of "f", or -1. */
        Program(int[] codes, int finish) {
            this.codes = codes;
            this.finish = finish;
        }

        int length() {
            return codes.length;
        }

        int letter(int i) {
            return i >= 0 && i < codes.length ? codes[i] / 10 : 0;
        }

        int number(int i) {
            return i >= 0 && i < codes.length ? codes[i] % 10 : 0;
        }
    }

    /** A coroutine's stand in one program. */
    private static final class Frame {
        Program program;
        int number;
        int step;
        int count;
        boolean finishing;
        int held;

        void begin(Program begun, int numberOfIt) {
            program = begun;
            number = numberOfIt;
            step = 0;
            count = 0;
            finishing = false;
            held = HELD_NOTHING;
        }

        void become(Frame other) {
            program = other.program;
            number = other.number;
            step = other.step;
            count = other.count;
            finishing = other.finishing;
            held = other.held;
        }
    }

    private static final class Coroutine {
        int program;
        Manner manner;
        int state;
        int acc;
        int out;
        int outs;
        int age;
        int waitsFor;
        int fault;
        int depth;
        final Frame[] frames = new Frame[FRAMES];

        Coroutine() {
            for (int i = 0; i < FRAMES; i++) {
                frames[i] = new Frame();
            }
        }

        void begin(Program begun, int numberOfIt, Manner itsManner) {
            program = numberOfIt;
            manner = itsManner;
            state = NEW;
            acc = 0;
            out = NONE;
            outs = 0;
            age = 0;
            waitsFor = NONE;
            fault = NO_FAULT;
            depth = 1;
            frames[0].begin(begun, numberOfIt);
        }

        void become(Coroutine other) {
            program = other.program;
            manner = other.manner;
            state = other.state;
            acc = other.acc;
            out = other.out;
            outs = other.outs;
            age = other.age;
            waitsFor = other.waitsFor;
            fault = other.fault;
            depth = other.depth;
            for (int i = 0; i < depth; i++) {
                frames[i].become(other.frames[i]);
            }
        }

        boolean isEnded() {
            return state >= DONE;
        }

        boolean canGo() {
            return state <= PAUSED;
        }

        void takeIn(int v) {
            if (state == PAUSED) {
                acc = manner.takes(v, acc);
            }
            state = READY;
        }

        void growOlder() {
            if (age < MOST) {
                age++;
            }
        }

        void waitFor(int whom, int waitingState) {
            state = waitingState;
            waitsFor = whom;
        }

        void goOn() {
            state = READY;
            waitsFor = NONE;
        }

        int figureTold(int what) {
            switch (what) {
                case 0:
                    return state;
                case 1:
                    return acc;
                case 2:
                    return out;
                case 3:
                    return outs;
                default:
                    return age;
            }
        }

        /** The frame on top is closed, and those below as long as none has a finishing part. */
        void closeTop() {
            for (; depth > 0; depth--) {
                Frame top = frames[depth - 1];
                if (top.finishing) {
                    if (top.held == HELD_NOTHING) {
                        top.held = HELD_CLOSE;
                    }
                    return;
                }
                if (top.program.finish >= top.step) {
                    top.held = HELD_CLOSE;
                    top.finishing = true;
                    top.step = top.program.finish + 1;
                    return;
                }
            }
            state = CLOSED;
        }
    }

    /** Numbers of coroutines in the order they came. */
    private static final class Queue {
        final int[] who = new int[COROUTINES];
        int size = 0;

        void become(Queue other) {
            size = other.size;
            for (int i = 0; i < size; i++) {
                who[i] = other.who[i];
            }
        }

        void join(int c) {
            if (size < COROUTINES) {
                who[size] = c;
                size++;
            }
        }

        void leave(int c) {
            int kept = 0;
            for (int i = 0; i < size; i++) {
                if (who[i] != c) {
                    who[kept] = who[i];
                    kept++;
                }
            }
            size = kept;
        }
    }

    /** All that there is but shelves and the image. */
    private static final class Machine {
        final Program[] programs = new Program[PROGRAMS];
        final Coroutine[] coroutines = new Coroutine[COROUTINES];
        final Queue[] senders = new Queue[CHANNELS];
        final Queue[] getters = new Queue[CHANNELS];
        int count = 0;
        int width = MOST_WIDTH;
        int round = 0;
        // Bits of those who have yielded since somebody set it to 0.
        int yielded = 0;
        private final int[] line = new int[COROUTINES];
        private final int[] ranks = new int[COROUTINES];
        private final int[] codes = new int[MOST_FAULTS];
        private final int[] causes = new int[MOST_FAULTS];
        private int faults = 0;

        Machine() {
            Program empty = new Program(new int[0], -1);
            for (int i = 0; i < PROGRAMS; i++) {
                programs[i] = empty;
            }
            for (int i = 0; i < COROUTINES; i++) {
                coroutines[i] = new Coroutine();
            }
            for (int i = 0; i < CHANNELS; i++) {
                senders[i] = new Queue();
                getters[i] = new Queue();
            }
        }

        void become(Machine other) {
            count = other.count;
            width = other.width;
            round = other.round;
            faults = other.faults;
            for (int i = 0; i < PROGRAMS; i++) {
                programs[i] = other.programs[i];
            }
            for (int i = 0; i < count; i++) {
                coroutines[i].become(other.coroutines[i]);
            }
            for (int i = 0; i < CHANNELS; i++) {
                senders[i].become(other.senders[i]);
                getters[i].become(other.getters[i]);
            }
            System.arraycopy(other.codes, 0, codes, 0, faults);
            System.arraycopy(other.causes, 0, causes, 0, faults);
        }

        // -- what it is asked

        int allBits() {
            return (1 << count) - 1;
        }

        int endedBits() {
            int bits = 0;
            for (int i = 0; i < count; i++) {
                if (coroutines[i].isEnded()) {
                    bits |= 1 << i;
                }
            }
            return bits;
        }

        int doneBits() {
            int bits = 0;
            for (int i = 0; i < count; i++) {
                if (coroutines[i].state == DONE) {
                    bits |= 1 << i;
                }
            }
            return bits;
        }

        int ableBits() {
            int bits = 0;
            for (int i = 0; i < count; i++) {
                if (coroutines[i].canGo()) {
                    bits |= 1 << i;
                }
            }
            return bits;
        }

        int outsOfAll() {
            int sum = 0;
            for (int i = 0; i < count; i++) {
                sum += coroutines[i].outs;
            }
            return sum;
        }

        int codeOf(int fault) {
            return fault >= 0 && fault < faults ? codes[fault] : 0;
        }

        int causeOf(int fault) {
            return fault >= 0 && fault < faults ? causes[fault] : NO_FAULT;
        }

        /** How many faults a faulty one has: its own, its cause, and so on. */
        int faultsOf(int who) {
            int fault = coroutines[who].fault;
            int many = 0;
            for (; many < MOST_FAULTS && fault >= 0 && fault < faults; many++) {
                fault = causes[fault];
            }
            return many;
        }

        // -- what it does

        /** A coroutine more: its number, or that there is no room. */
        int add(int p, Manner manner) {
            if (count >= COROUTINES) {
                return NO_ROOM;
            }
            coroutines[count].begin(programs[p], p, manner);
            count++;
            return count - 1;
        }

        void sendTo(int who, int v) {
            Coroutine one = coroutines[who];
            one.takeIn(v);
            for (int i = 0; i < STEPS_OF_A_SENDING && one.state == READY; i++) {
                makeStep(who, false);
            }
        }

        void closeDown(int who) {
            for (int i = 0; i < CHANNELS; i++) {
                senders[i].leave(who);
                getters[i].leave(who);
            }
            Coroutine one = coroutines[who];
            one.goOn();
            one.closeTop();
            if (one.isEnded()) {
                tellJoining(this, who, 0);
            }
            for (int i = 0; i < STEPS_OF_A_CLOSING && !one.isEnded(); i++) {
                makeStep(who, true);
            }
        }

        /** Rounds in mind: where nobody can go any more, further ones change nothing that is asked. */
        void makeRounds(int n) {
            boolean able = true;
            for (int i = 0; i < n && able; i++) {
                able = makeRound();
            }
        }

        /** Lets the longest waiting ones go: whether there was one. */
        boolean makeRound() {
            round++;
            int many = lineUp();
            int going = Math.min(width, many);
            for (int i = 0; i < going; i++) {
                Coroutine one = coroutines[line[i]];
                one.age = 0;
                one.takeIn(0);
                makeStep(line[i], false);
            }
            for (int i = going; i < many; i++) {
                coroutines[line[i]].growOlder();
            }
            return many > 0;
        }

        void loseRound() {
            round++;
            for (int i = 0; i < count; i++) {
                if (coroutines[i].canGo()) {
                    coroutines[i].growOlder();
                }
            }
        }

        /** Puts those who can go in line, the longest waiting ones ahead: how many they are. */
        private int lineUp() {
            int many = 0;
            for (int i = 0; i < count; i++) {
                if (coroutines[i].canGo()) {
                    int rank = coroutines[i].age + coroutines[i].manner.weight();
                    int place = many;
                    for (; place > 0 && ranks[place - 1] < rank; place--) {
                        ranks[place] = ranks[place - 1];
                        line[place] = line[place - 1];
                    }
                    ranks[place] = rank;
                    line[place] = i;
                    many++;
                }
            }
            return many;
        }

        private void makeStep(int who, boolean closing) {
            Coroutine one = coroutines[who];
            if (one.depth < 1) {
                return;
            }
            Frame top = one.frames[one.depth - 1];
            if (top.step >= top.program.length()) {
                endTop(one);
            } else {
                int letter = top.program.letter(top.step);
                int n = top.program.number(top.step);
                top.step++;
                switch (letter) {
                    case 'a':
                        one.acc = (one.acc + n) % MODULUS;
                        break;
                    case 'm':
                        one.acc = one.acc * n % MODULUS;
                        break;
                    case 'z':
                        if (one.acc == 0) {
                            top.step += n;
                        }
                        break;
                    case 'f':
                        top.finishing = true;
                        break;
                    case 't':
                        throwFault(one, newFault(n, NO_FAULT));
                        break;
                    default:
                        if (!closing) {
                            makeLivelyStep(who, letter, n);
                        }
                        break;
                }
            }
            if (one.isEnded()) {
                tellJoining(this, who, 0);
            }
        }

        /** The steps that do nothing while one is closing. */
        private void makeLivelyStep(int who, int letter, int n) {
            Coroutine one = coroutines[who];
            switch (letter) {
                case 'y':
                    one.out = one.manner.yields((one.acc + n) % MODULUS);
                    one.outs = one.outs < MOST ? one.outs + 1 : MOST;
                    one.state = PAUSED;
                    yielded |= 1 << who;
                    break;
                case 'r':
                    Frame top = one.frames[one.depth - 1];
                    if (!top.finishing && top.count < n) {
                        top.count++;
                        top.step = 0;
                    }
                    break;
                case 'd':
                    goInto(one, n);
                    break;
                case 's':
                    sendAt(who, n);
                    break;
                case 'g':
                    getAt(who, n);
                    break;
                case 'j':
                    if (n == who || n >= count) {
                        throwFault(one, newFault(CODE_NO_SUCH, NO_FAULT));
                    } else if (coroutines[n].isEnded()) {
                        haveEnd(one, coroutines[n]);
                    } else {
                        one.waitFor(n, JOINING);
                    }
                    break;
                default:
                    break;
            }
        }

        private void goInto(Coroutine one, int p) {
            if (one.depth >= FRAMES) {
                throwFault(one, newFault(CODE_TOO_DEEP, NO_FAULT));
            } else if (p >= PROGRAMS) {
                throwFault(one, newFault(CODE_NO_SUCH, NO_FAULT));
            } else {
                one.frames[one.depth].begin(programs[p], p);
                one.depth++;
            }
        }

        private void sendAt(int who, int ch) {
            Coroutine one = coroutines[who];
            if (ch >= CHANNELS) {
                throwFault(one, newFault(CODE_NO_SUCH, NO_FAULT));
            } else if (getters[ch].size > 0) {
                Coroutine getter = coroutines[getters[ch].who[0]];
                getters[ch].leave(getters[ch].who[0]);
                getter.acc = one.acc;
                getter.goOn();
            } else {
                senders[ch].join(who);
                one.waitFor(ch, SENDING);
            }
        }

        private void getAt(int who, int ch) {
            Coroutine one = coroutines[who];
            if (ch >= CHANNELS) {
                throwFault(one, newFault(CODE_NO_SUCH, NO_FAULT));
            } else if (senders[ch].size > 0) {
                Coroutine sender = coroutines[senders[ch].who[0]];
                senders[ch].leave(senders[ch].who[0]);
                one.acc = sender.acc;
                sender.goOn();
            } else {
                getters[ch].join(who);
                one.waitFor(ch, GETTING);
            }
        }

        private void haveEnd(Coroutine one, Coroutine ended) {
            if (ended.state == DONE) {
                one.acc = ended.acc;
            } else if (ended.state == FAULTY) {
                throwFault(one, newFault(CODE_FAULTY, ended.fault));
            } else {
                throwFault(one, newFault(CODE_CLOSED, NO_FAULT));
            }
        }

        /** One that throws by what it is told may be ended too: who joins that is told ahead of the next. */
        private static void tellJoining(Machine machine, int ended, int level) {
            if (level >= COROUTINES) {
                return;
            }
            for (int i = 0; i < machine.count; i++) {
                Coroutine one = machine.coroutines[i];
                if (one.state == JOINING && one.waitsFor == ended) {
                    one.goOn();
                    machine.haveEnd(one, machine.coroutines[ended]);
                    if (one.isEnded()) {
                        tellJoining(machine, i, level + 1);
                    }
                }
            }
        }

        private void endTop(Coroutine one) {
            int held = one.frames[one.depth - 1].held;
            one.depth--;
            if (held == HELD_CLOSE) {
                one.closeTop();
            } else if (held >= 0) {
                throwFault(one, held);
            } else if (one.depth == 0) {
                one.state = DONE;
            }
        }

        private int newFault(int code, int cause) {
            if (faults < MOST_FAULTS) {
                codes[faults] = code;
                causes[faults] = cause;
                faults++;
            }
            return faults - 1;
        }

        /** The frame on top throws, and those below as long as none has a finishing part. */
        private void throwFault(Coroutine one, int fault) {
            for (; one.depth > 0; one.depth--) {
                Frame top = one.frames[one.depth - 1];
                if (!top.finishing && top.program.finish >= top.step) {
                    top.held = fault;
                    top.finishing = true;
                    top.step = top.program.finish + 1;
                    return;
                }
                if (top.held >= 0 && causes[fault] == NO_FAULT) {
                    causes[fault] = top.held;
                }
            }
            one.state = FAULTY;
            one.fault = fault;
        }
    }

    /** Up to 100 numbers, each kept in the bits of its kind. */
    private static final class Row {
        final int kind;
        final int[] elements;

        Row(int kind, int size) {
            this.kind = kind;
            this.elements = new int[size];
        }

        int size() {
            return elements.length;
        }

        boolean has(int i) {
            return i >= 0 && i < elements.length;
        }

        boolean hasPart(int from, int many) {
            return from >= 0 && many >= 0 && many <= elements.length && from <= elements.length - many;
        }

        int at(int i) {
            return has(i) ? elements[i] : 0;
        }

        void become(int i, int v) {
            if (has(i)) {
                elements[i] = kind == BYTES ? (byte) v : kind == SHORTS ? (short) v : v;
            }
        }

        int leastNumber() {
            return kind == BYTES ? LEAST_BYTE : kind == SHORTS ? LEAST_SHORT : LEAST_INT;
        }
    }

    /** Statements in a row of bytes. */
    private static final class Text {
        private final Row row;
        private final int[] codes = new int[MOST_STEPS];

        Text(Row row) {
            this.row = row;
        }

        /** How many statements, or the fault of kind 1. */
        int statements() {
            int place = 0;
            int many = 0;
            for (; many < MOST_ELEMENTS && place < row.size(); many++) {
                place = endOfStatement(place);
                if (place < 0) {
                    return place;
                }
            }
            return many == 0 ? faultAt(0) : many;
        }

        private static int faultAt(int place) {
            return -1000 - place;
        }

        /** The place behind the statement, or the fault of kind 1. */
        private int endOfStatement(int place) {
            switch (row.at(place)) {
                case 'p':
                    return endOfProgram(place + 1);
                case 'c':
                case 'n':
                    return endOfNumbers(place + 1, 3);
                case 'l':
                    return endOfNumbers(place + 1, 2);
                case 'x':
                case 'w':
                    return endOfNumbers(place + 1, 1);
                default:
                    return faultAt(place);
            }
        }

        private int endOfNumbers(int from, int digits) {
            int end = from + digits;
            for (int place = from; place < end; place++) {
                if (!isDigit(row.at(place))) {
                    return faultAt(place);
                }
            }
            return row.at(end) == ';' ? end + 1 : faultAt(end);
        }

        private int endOfProgram(int from) {
            if (!isDigit(row.at(from))) {
                return faultAt(from);
            }
            int place = from + 1;
            for (; place < row.size() && row.at(place) != ';'; place++) {
                if (row.at(place) != 'f') {
                    if (!isNumberedStep(row.at(place))) {
                        return faultAt(place);
                    }
                    place++;
                    if (!isDigit(row.at(place))) {
                        return faultAt(place);
                    }
                }
            }
            return row.at(place) == ';' ? place + 1 : faultAt(place);
        }

        private static boolean isDigit(int b) {
            return b >= '0' && b <= '9';
        }

        private static boolean isNumberedStep(int b) {
            switch (b) {
                case 'y':
                case 'a':
                case 'm':
                case 'z':
                case 'r':
                case 'd':
                case 't':
                case 's':
                case 'g':
                case 'j':
                    return true;
                default:
                    return false;
            }
        }

        int behindStatement(int from) {
            int place = from;
            while (place < row.size() && row.at(place) != ';') {
                place++;
            }
            return place + 1;
        }

        private int digit(int place) {
            return row.at(place) - '0';
        }

        private int twoDigits(int place) {
            return 10 * digit(place) + digit(place + 1);
        }

        /** Does the statement, whose signs are looked at already: whether it is as it must be. */
        boolean isDone(int place, Machine machine) {
            int number = digit(place + 1);
            switch (row.at(place)) {
                case 'p':
                    return isProgramDone(place, machine);
                case 'c':
                    return isComingDone(place, machine);
                case 'n':
                    if (number >= machine.count || !machine.coroutines[number].canGo()) {
                        return false;
                    }
                    machine.sendTo(number, twoDigits(place + 2));
                    return true;
                case 'x':
                    if (number >= machine.count || machine.coroutines[number].isEnded()) {
                        return false;
                    }
                    machine.closeDown(number);
                    return true;
                case 'w':
                    if (number < 1 || number > MOST_WIDTH) {
                        return false;
                    }
                    machine.width = number;
                    return true;
                default:
                    return areRoundsDone(twoDigits(place + 1), machine);
            }
        }

        private boolean isProgramDone(int place, Machine machine) {
            int number = digit(place + 1);
            Program told = programFrom(place + 2);
            if (number < 0 || number >= PROGRAMS || told == null) {
                return false;
            }
            machine.programs[number] = told;
            return true;
        }

        /** The program told from there on; null if it has too many steps or a second "f". */
        private Program programFrom(int from) {
            int steps = 0;
            int finish = -1;
            for (int place = from; place < row.size() && row.at(place) != ';'; place++) {
                boolean finishes = row.at(place) == 'f';
                if (steps >= MOST_STEPS || finishes && finish >= 0) {
                    return null;
                }
                if (finishes) {
                    finish = steps;
                    codes[steps] = 'f' * 10;
                } else {
                    codes[steps] = row.at(place) * 10 + digit(place + 1);
                    place++;
                }
                steps++;
            }
            return new Program(Arrays.copyOf(codes, steps), finish);
        }

        private boolean isComingDone(int place, Machine machine) {
            int number = digit(place + 1);
            int kind = digit(place + 2);
            if (number >= PROGRAMS || kind > STURDY) {
                return false;
            }
            return machine.add(number, new Manner(kind, digit(place + 3))) >= 0;
        }

        private boolean areRoundsDone(int n, Machine machine) {
            if (n < 1 || n > MOST_ROUNDS || machine.round + n > MOST) {
                return false;
            }
            for (int i = 0; i < n; i++) {
                machine.makeRound();
            }
            return true;
        }
    }
}
