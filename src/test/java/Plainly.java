import java.util.ArrayList;
import java.util.Comparator;
import java.util.List;

/**
 * The document told once more, as plainly as can be and apart from the class: linked faults that
 * never change, lists, whole copies. What the tests compare the class with.
 */
final class Plainly {
    static final int NEW = 0;
    static final int READY = 1;
    static final int PAUSED = 2;
    static final int SENDING = 3;
    static final int GETTING = 4;
    static final int JOINING = 5;
    static final int DONE = 6;
    static final int FAULTY = 7;
    static final int CLOSED = 8;
    private static final Object CLOSE = "close";

    record Fault(int code, Fault cause) { }

    record Step(char letter, int n) { }

    static final class Frame {
        int number;
        List<Step> steps;
        int at;
        int count;
        boolean finishing;
        Object held;

        Frame copied() {
            Frame f = new Frame();
            f.number = number;
            f.steps = steps;
            f.at = at;
            f.count = count;
            f.finishing = finishing;
            f.held = held;
            return f;
        }

        /** Goes behind its first "f" from here on, if there is one and it is not finishing. */
        boolean finishes(Object holding) {
            for (int i = at; !finishing && i < steps.size(); i++) {
                if (steps.get(i).letter() == 'f') {
                    finishing = true;
                    held = holding;
                    at = i + 1;
                }
            }
            return held == holding;
        }
    }

    static final class Co {
        int number;
        int program;
        int kind;
        int figure;
        int state;
        int acc;
        int out = -4;
        int outs;
        int age;
        int waits = -4;
        Fault fault;
        List<Frame> frames = new ArrayList<>();

        Co copied() {
            Co c = new Co();
            c.number = number;
            c.program = program;
            c.kind = kind;
            c.figure = figure;
            c.state = state;
            c.acc = acc;
            c.out = out;
            c.outs = outs;
            c.age = age;
            c.waits = waits;
            c.fault = fault;
            for (Frame f : frames) {
                c.frames.add(f.copied());
            }
            return c;
        }

        boolean ended() {
            return state == DONE || state == FAULTY || state == CLOSED;
        }

        boolean able() {
            return state == NEW || state == READY || state == PAUSED;
        }

        int weight() {
            return new int[] {0, figure, -figure, figure + 2, -(figure / 2), 0}[kind];
        }

        Frame top() {
            return frames.get(frames.size() - 1);
        }

        Frame pop() {
            return frames.remove(frames.size() - 1);
        }

        int told(int what) {
            return new int[] {state, acc, out, outs, age}[what];
        }
    }

    List<List<Step>> programs = new ArrayList<>();
    List<Co> cos = new ArrayList<>();
    List<List<Co>> sending = new ArrayList<>();
    List<List<Co>> getting = new ArrayList<>();
    int width = 8;
    int round = 0;
    List<Integer> yielders = new ArrayList<>();

    Plainly() {
        for (int i = 0; i < 5; i++) {
            programs.add(new ArrayList<>());
        }
        for (int i = 0; i < 3; i++) {
            sending.add(new ArrayList<>());
            getting.add(new ArrayList<>());
        }
    }

    Plainly copied() {
        Plainly x = new Plainly();
        x.programs = new ArrayList<>(programs);
        for (Co c : cos) {
            x.cos.add(c.copied());
        }
        for (int i = 0; i < 3; i++) {
            for (Co c : sending.get(i)) {
                x.sending.get(i).add(x.cos.get(c.number));
            }
            for (Co c : getting.get(i)) {
                x.getting.get(i).add(x.cos.get(c.number));
            }
        }
        x.width = width;
        x.round = round;
        return x;
    }

    int come(int p, int kind, int figure) {
        if (cos.size() == 8) {
            return -2;
        }
        Co c = new Co();
        c.number = cos.size();
        c.program = p;
        c.kind = kind;
        c.figure = figure;
        c.frames.add(frameOf(p));
        cos.add(c);
        return c.number;
    }

    private Frame frameOf(int p) {
        Frame f = new Frame();
        f.number = p;
        f.steps = programs.get(p);
        return f;
    }

    // ---- steps

    private void thrown(Co c, Fault fault) {
        if (c.frames.isEmpty()) {
            c.state = FAULTY;
            c.fault = fault;
            return;
        }
        Frame f = c.top();
        if (!f.finishing && f.finishes(fault)) {
            return;
        }
        c.pop();
        boolean takesCause = f.held instanceof Fault && fault.cause() == null;
        thrown(c, takesCause ? new Fault(fault.code(), (Fault) f.held) : fault);
    }

    private void closed(Co c) {
        if (c.frames.isEmpty()) {
            c.state = CLOSED;
            return;
        }
        Frame f = c.top();
        if (f.finishing) {
            f.held = f.held == null ? CLOSE : f.held;
            return;
        }
        if (!f.finishes(CLOSE)) {
            c.pop();
            closed(c);
        }
    }

    private void step(Co c, boolean closing) {
        Frame f = c.top();
        if (f.at >= f.steps.size()) {
            c.pop();
            if (f.held == CLOSE) {
                closed(c);
            } else if (f.held != null) {
                thrown(c, (Fault) f.held);
            } else if (c.frames.isEmpty()) {
                c.state = DONE;
            }
        } else {
            Step s = f.steps.get(f.at);
            f.at++;
            if (!closing || "ysgjdr".indexOf(s.letter()) < 0) {
                act(c, f, s.letter(), s.n());
            }
        }
        if (c.ended()) {
            tell(c);
        }
    }

    private void act(Co c, Frame f, char letter, int n) {
        if (letter == 'y') {
            int u = (c.acc + n) % 1000;
            c.out = c.kind == 3 ? (u + c.figure) % 1000 : c.kind == 2 || c.kind == 4 ? u / 2 : u;
            c.outs = Math.min(999, c.outs + 1);
            c.state = PAUSED;
            yielders.add(c.number);
        } else if (letter == 'a') {
            c.acc = (c.acc + n) % 1000;
        } else if (letter == 'm') {
            c.acc = c.acc * n % 1000;
        } else if (letter == 'z') {
            f.at += c.acc == 0 ? n : 0;
        } else if (letter == 'r' && !f.finishing && f.count < n) {
            f.count++;
            f.at = 0;
        } else if (letter == 'f') {
            f.finishing = true;
        } else if (letter == 'd') {
            if (c.frames.size() == 6) {
                thrown(c, new Fault(7, null));
            } else if (n > 4) {
                thrown(c, new Fault(6, null));
            } else {
                c.frames.add(frameOf(n));
            }
        } else if (letter == 't') {
            thrown(c, new Fault(n, null));
        } else if (letter == 's' || letter == 'g') {
            meet(c, letter == 's', n);
        } else if (letter == 'j') {
            if (n == c.number || n >= cos.size()) {
                thrown(c, new Fault(6, null));
            } else if (cos.get(n).ended()) {
                hand(c, cos.get(n));
            } else {
                c.state = JOINING;
                c.waits = n;
            }
        }
    }

    private void meet(Co c, boolean sends, int n) {
        if (n > 2) {
            thrown(c, new Fault(6, null));
            return;
        }
        List<Co> others = (sends ? getting : sending).get(n);
        if (others.isEmpty()) {
            (sends ? sending : getting).get(n).add(c);
            c.state = sends ? SENDING : GETTING;
            c.waits = n;
            return;
        }
        Co other = others.remove(0);
        other.state = READY;
        other.waits = -4;
        if (sends) {
            other.acc = c.acc;
        } else {
            c.acc = other.acc;
        }
    }

    private void hand(Co c, Co ended) {
        if (ended.state == DONE) {
            c.acc = ended.acc;
        } else {
            thrown(c, ended.state == FAULTY ? new Fault(8, ended.fault) : new Fault(5, null));
        }
    }

    private void tell(Co ended) {
        for (Co c : cos) {
            if (c.state == JOINING && c.waits == ended.number) {
                c.state = READY;
                c.waits = -4;
                hand(c, ended);
                if (c.ended()) {
                    tell(c);
                }
            }
        }
    }

    private static void sent(Co c, int v) {
        if (c.state == PAUSED) {
            boolean eager = c.kind == 1 || c.kind == 3;
            boolean left = c.kind == 5 && v == 0;
            c.acc = left ? c.acc : eager ? (v + c.figure) % 1000 : v;
        }
        c.state = READY;
    }

    void send(int number, int v) {
        Co c = cos.get(number);
        sent(c, v);
        for (int i = 0; i < 40 && c.state == READY; i++) {
            step(c, false);
        }
    }

    void close(int number) {
        Co c = cos.get(number);
        for (int i = 0; i < 3; i++) {
            sending.get(i).remove(c);
            getting.get(i).remove(c);
        }
        c.state = READY;
        c.waits = -4;
        closed(c);
        if (c.ended()) {
            tell(c);
        }
        while (!c.ended()) {
            step(c, true);
        }
    }

    void round(boolean lost) {
        round++;
        List<Co> able = new ArrayList<>();
        for (Co c : cos) {
            if (c.able()) {
                able.add(c);
            }
        }
        able.sort(Comparator.comparingInt((Co c) -> -c.age - c.weight()).thenComparingInt(c -> c.number));
        int going = lost ? 0 : Math.min(width, able.size());
        for (Co c : able.subList(0, going)) {
            sent(c, 0);
            step(c, false);
            c.age = 0;
        }
        for (Co c : able.subList(going, able.size())) {
            c.age = Math.min(999, c.age + 1);
        }
    }

    Plainly on(int n) {
        Plainly x = copied();
        for (int i = 0; i < n; i++) {
            x.round(false);
        }
        return x;
    }

    int bits(java.util.function.Predicate<Co> which) {
        int bits = 0;
        for (Co c : cos) {
            bits |= which.test(c) ? 1 << c.number : 0;
        }
        return bits;
    }

    int ended() {
        return Integer.bitCount(bits(Co::ended));
    }

    int outs() {
        return cos.stream().mapToInt(c -> c.outs).sum();
    }

    // ---- the text

    private static final String[] SHAPES = {"c###;", "n###;", "x#;", "w#;", "l##;"};

    /** How many statements, or its fault; with none all of it comes. */
    int text(int[] bytes) {
        List<int[]> statements = new ArrayList<>();
        int place = 0;
        while (place < bytes.length || statements.isEmpty()) {
            int end = endOf(bytes, place);
            if (end <= -1000) {
                return end;
            }
            statements.add(java.util.Arrays.copyOfRange(bytes, place, end));
            place = end;
        }
        Plainly tried = copied();
        place = 0;
        for (int[] s : statements) {
            if (!tried.does(s)) {
                return -2000 - place;
            }
            place += s.length;
        }
        programs = tried.programs;
        cos = tried.cos;
        sending = tried.sending;
        getting = tried.getting;
        width = tried.width;
        round = tried.round;
        return statements.size();
    }

    private static int endOf(int[] b, int from) {
        if (from < b.length && b[from] == 'p') {
            int place = from + 1;
            boolean wantsDigit = true;
            while (place < b.length) {
                boolean digit = b[place] >= '0' && b[place] <= '9';
                if (wantsDigit != digit) {
                    return -1000 - place;
                }
                if (digit) {
                    wantsDigit = false;
                } else if (b[place] == ';') {
                    return place + 1;
                } else if ("yamzrdtsgj".indexOf(b[place]) >= 0) {
                    wantsDigit = true;
                } else if (b[place] != 'f') {
                    return -1000 - place;
                }
                place++;
            }
            return -1000 - place;
        }
        for (String shape : SHAPES) {
            if (from < b.length && shape.charAt(0) == b[from]) {
                for (int i = 1; i < shape.length(); i++) {
                    int at = from + i;
                    char wanted = shape.charAt(i);
                    boolean fits = at < b.length
                        && (wanted == '#' ? b[at] >= '0' && b[at] <= '9' : b[at] == wanted);
                    if (!fits) {
                        return -1000 - at;
                    }
                }
                return from + shape.length();
            }
        }
        return -1000 - from;
    }

    private boolean does(int[] s) {
        int one = s[1] - '0';
        if (s[0] == 'p') {
            List<Step> steps = new ArrayList<>();
            int finishes = 0;
            for (int i = 2; s[i] != ';'; i++) {
                if (s[i] == 'f') {
                    finishes++;
                    steps.add(new Step('f', 0));
                } else {
                    steps.add(new Step((char) s[i], s[i + 1] - '0'));
                    i++;
                }
            }
            if (one > 4 || finishes > 1 || steps.size() > 16) {
                return false;
            }
            programs.set(one, steps);
            return true;
        }
        if (s[0] == 'c') {
            return one <= 4 && s[2] - '0' <= 5 && come(one, s[2] - '0', s[3] - '0') >= 0;
        }
        if (s[0] == 'n') {
            boolean can = one < cos.size() && cos.get(one).able();
            if (can) {
                send(one, (s[2] - '0') * 10 + s[3] - '0');
            }
            return can;
        }
        if (s[0] == 'x') {
            boolean can = one < cos.size() && !cos.get(one).ended();
            if (can) {
                close(one);
            }
            return can;
        }
        if (s[0] == 'w') {
            boolean can = one >= 1 && one <= 8;
            width = can ? one : width;
            return can;
        }
        int n = one * 10 + s[2] - '0';
        boolean can = n >= 1 && n <= 60 && round + n <= 999;
        for (int i = 0; can && i < n; i++) {
            round(false);
        }
        return can;
    }
}
