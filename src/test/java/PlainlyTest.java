import java.util.Random;

/** Runs by lot on the class and on a Plainly side by side: every answer is to be the same. */
public final class PlainlyTest {
    private static final Check CHECK = new Check();
    private static final int RUNS = Integer.getInteger("runs", 1500);
    private static final int FIRST = Integer.getInteger("first", 0);

    private final Random lot;
    private final StepMachines x = new StepMachines();
    private Plainly y = new Plainly();
    private Plainly image = null;
    private final String name;
    private final int taste;

    private PlainlyTest(int seed) {
        lot = new Random(seed);
        name = "seed " + seed + ": ";
        taste = lot.nextInt(8);
    }

    public static void main(String[] args) {
        for (int seed = FIRST; seed < FIRST + RUNS && !CHECK.hasWrong(); seed++) {
            new PlainlyTest(seed).run();
        }
        CHECK.end("PlainlyTest");
    }

    private void due(String call, long got, long want) {
        CHECK.due(name + call, got, want);
    }

    private void run() {
        for (int p = 0; p < 5; p++) {
            if (lot.nextInt(6) > 0) {
                text("p" + p + steps() + ";");
            }
        }
        for (int k = lot.nextInt(9); k > 0; k--) {
            text("c" + lot.nextInt(5) + lot.nextInt(6) + lot.nextInt(10) + ";");
        }
        if (lot.nextInt(2) == 0) {
            text("w" + (1 + lot.nextInt(3)) + ";");
        }
        for (int k = 0; k < 12; k++) {
            change();
            look();
            ask();
        }
    }

    private String steps() {
        String[] tastes = {"yyyyaamzrfdtsgj", "yfddttjjjfrz", "ysgsgsgjya", "ttfddjjfdtjf", "yyaamyyjr", "yyardjfyat",
            "yasgyajyd", "yyyjjrraaf"};
        String letters = tastes[taste];
        StringBuilder told = new StringBuilder();
        int many = lot.nextInt(lot.nextInt(3) == 0 ? 17 : 8);
        boolean finished = false;
        for (int i = 0; i < many; i++) {
            char letter = letters.charAt(lot.nextInt(letters.length()));
            if (letter == 'f') {
                if (!finished) {
                    told.append('f');
                }
                finished = true;
            } else {
                int most = letter == 's' || letter == 'g' ? 2 : letter == 'd' ? 4 : letter == 'j' ? 6 : 9;
                told.append(letter).append(lot.nextInt(lot.nextInt(12) == 0 ? 10 : most));
            }
        }
        return told.toString();
    }

    private String statement() {
        switch (lot.nextInt(9)) {
            case 0:
                return "p" + lot.nextInt(6) + steps() + ";";
            case 1:
                return "n" + lot.nextInt(8) + lot.nextInt(10) + lot.nextInt(10) + ";";
            case 2:
                return "x" + lot.nextInt(9) + ";";
            case 3:
                return "w" + lot.nextInt(10) + ";";
            case 4:
                return "l" + lot.nextInt(lot.nextInt(4) == 0 ? 8 : 1) + lot.nextInt(10) + ";";
            default:
                return "c" + lot.nextInt(lot.nextInt(5) == 0 ? 6 : 5) + lot.nextInt(lot.nextInt(9) == 0 ? 7 : 6)
                    + lot.nextInt(10) + ";";
        }
    }

    private void text(String told) {
        int[] bytes = told.chars().map(b -> (byte) b).toArray();
        if (bytes.length <= 100) {
            Check.onShelf(x, 0, 0, bytes);
            due("text " + told, x.text(0), y.text(bytes));
        }
    }

    private void spoiltText() {
        StringBuilder told = new StringBuilder();
        for (int i = lot.nextInt(5); i >= 0; i--) {
            told.append(statement());
        }
        int spoils = lot.nextInt(3);
        for (int i = 0; i < spoils && told.length() > 0; i++) {
            String signs = "pcnxwl;yamzrdtsgjf0123456789\u0000\u00e9";
            char sign = signs.charAt(lot.nextInt(signs.length()));
            int place = lot.nextInt(told.length());
            if (lot.nextBoolean()) {
                told.setCharAt(place, sign);
            } else {
                told.setLength(place);
            }
        }
        text(told.toString());
    }

    private void change() {
        int c = lot.nextInt(y.cos.size() + 1);
        int n = 1 + lot.nextInt(lot.nextInt(3) == 0 ? 60 : 4);
        switch (lot.nextInt(13)) {
            case 0:
            case 1:
                text(statement());
                break;
            case 2:
                spoiltText();
                break;
            case 3:
            case 4:
            case 5:
                int p = lot.nextInt(5);
                int kind = lot.nextInt(6);
                int figure = lot.nextInt(10);
                x.keep(1, 1, kind, figure);
                due("comes", x.comes(p, 1), y.come(p, kind, figure));
                break;
            case 6:
            case 7:
                send(c, lot.nextInt(1000));
                break;
            case 8:
                close(c);
                break;
            case 9:
            case 10:
                if (y.round + n <= 999) {
                    y = y.on(n);
                    due("rounds " + n, x.rounds(n), y.ended());
                } else {
                    due("rounds " + n, x.rounds(n), -3);
                }
                break;
            case 11:
                int w = 1 + lot.nextInt(lot.nextInt(3) == 0 ? 8 : 3);
                due("width", x.width(w), y.width);
                y.width = w;
                break;
            default:
                imageOrBack();
                break;
        }
    }

    private void send(int c, int v) {
        if (c >= y.cos.size()) {
            due("send none", x.send(c, v), -1);
        } else if (y.cos.get(c).able()) {
            y.send(c, v);
            due("send " + c, x.send(c, v), y.cos.get(c).state);
        } else {
            due("send one that can't be sent to", x.send(c, v), -3);
        }
    }

    private void close(int c) {
        if (c >= y.cos.size()) {
            due("close none", x.close(c), -1);
        } else if (!y.cos.get(c).ended()) {
            y.close(c);
            due("close " + c, x.close(c), y.cos.get(c).state);
        } else {
            due("close an ended one", x.close(c), -3);
        }
    }

    private void imageOrBack() {
        if (lot.nextBoolean()) {
            image = y.copied();
            due("image", x.image(), y.round);
        } else if (image != null) {
            y = image.copied();
            due("restore", x.restore(), y.round);
        } else {
            due("restore", x.restore(), -3);
        }
    }

    /** All that is told without trying anything. */
    private void look() {
        for (int p = 0; p < 5; p++) {
            due("program steps", x.program(p, -1, 0), y.programs.get(p).size());
            for (int i = 0; i < y.programs.get(p).size(); i++) {
                due("program letter", x.program(p, i, 0), y.programs.get(p).get(i).letter());
                due("program number", x.program(p, i, 1), y.programs.get(p).get(i).n());
            }
        }
        for (Plainly.Co c : y.cos) {
            lookAt(c);
        }
        for (int ch = 0; ch < 3; ch++) {
            for (int what = 0; what < 2; what++) {
                java.util.List<Plainly.Co> there = (what == 0 ? y.sending : y.getting).get(ch);
                due("channel", x.channel(ch, -1, what), there.size());
                for (int i = 0; i <= there.size(); i++) {
                    due("channel", x.channel(ch, i, what), i < there.size() ? there.get(i).number : -1);
                }
            }
        }
        due("count 0", x.count(0), y.cos.size());
        due("count 1", x.count(1), y.round);
        due("count 2", x.count(2), y.width);
        due("count 3", x.count(3), y.bits(Plainly.Co::ended));
        due("count 4", x.count(4), y.bits(c -> c.state >= 3 && c.state <= 5));
        due("count 5", x.count(5), y.outs());
    }

    private void lookAt(Plainly.Co c) {
        int k = c.number;
        int faults = 0;
        for (Plainly.Fault f = c.fault; f != null; f = f.cause()) {
            due("cause " + k, x.cause(k, faults), f.code());
            faults++;
        }
        due("cause none", x.cause(k, faults), -1);
        int[] told = {c.state, c.acc, c.out, c.outs, c.age, c.program, c.kind, c.figure, c.weight() + 100,
            c.frames.size(), c.waits, faults};
        for (int what = 0; what < told.length; what++) {
            due("coroutine " + k + " what " + what, x.coroutine(k, what), told[what]);
        }
        for (int i = 0; i < c.frames.size(); i++) {
            Plainly.Frame f = c.frames.get(i);
            due("frame", x.frame(k, i, 0), f.number);
            due("frame", x.frame(k, i, 1), f.at);
            due("frame", x.frame(k, i, 2), f.count);
            due("frame", x.frame(k, i, 3), f.finishing ? 1 : 0);
            due("frame", x.frame(k, i, 4), f.held == null ? 0 : 10 + ((Plainly.Fault) f.held).code());
        }
        due("frame none", x.frame(k, c.frames.size(), 0), -1);
    }

    /** Some of what is asked in mind. */
    private void ask() {
        int n = lot.nextInt(lot.nextBoolean() ? 61 : 5);
        int few = Math.min(40, n);
        due("leastWidth " + n, x.leastWidth(n), PlainlyInMind.leastWidth(y, n));
        due("firstOut", x.firstOut(), PlainlyInMind.firstOut(y));
        due("closeBest " + few, x.closeBest(few), PlainlyInMind.closeBest(y, few));
        due("stuck 0", x.stuck(0), PlainlyInMind.stuck(y, 0));
        due("stuck 1", x.stuck(1), PlainlyInMind.stuck(y, 1));
        int z = lot.nextInt();
        for (int what = 0; what < 2; what++) {
            due("lots", x.lots(1 + few / 4, z, what), PlainlyInMind.lots(y, 1 + few / 4, z, what));
        }
        int p = lot.nextInt(5);
        int q = (p + 1 + lot.nextInt(4)) % 5;
        due("alike", x.alike(p, q, few / 2), PlainlyInMind.alike(y, p, q, few / 2));
        askRows();
        if (!y.cos.isEmpty()) {
            askOf(lot.nextInt(y.cos.size()), n);
        }
    }

    private void askOf(int c, int n) {
        for (int what = 0; what < 5; what++) {
            due("then " + c + " " + n, x.then(c, n, what), y.on(n).cos.get(c).told(what));
        }
        due("ends " + c, x.ends(c), PlainlyInMind.ends(y, c));
        boolean able = y.cos.get(c).able();
        for (int what = 0; what < 2; what++) {
            due("sendBest " + c, x.sendBest(c, what), able ? PlainlyInMind.sendBest(y, c, what) : -3);
        }
        int t = 2 + lot.nextInt(19);
        int lost = lot.nextInt(lot.nextInt(4) == 0 ? 8 : 5);
        for (int part = 0; part < 2; part++) {
            due("lost", x.lost(c, lost, t, part), PlainlyInMind.lost(y, c, lost, t, part));
        }
        int b = lot.nextInt(y.cos.size());
        if (b != c) {
            boolean ended = y.cos.get(c).ended() || y.cos.get(b).ended();
            int few = Math.min(40, n);
            due("two", x.two(c, b, few), ended ? -3 : PlainlyInMind.two(y, c, b, few));
        }
    }

    private void askRows() {
        int sort = lot.nextInt(3);
        int skipped = new int[] {-128, -32768, Integer.MIN_VALUE}[sort];
        int[] told = new int[lot.nextInt(7)];
        Plainly tried = y.copied();
        int p = lot.nextInt(5);
        int c = tried.come(p, 0, 0);
        for (int i = 0; i < told.length; i++) {
            if (c >= 0 && tried.cos.get(c).able()) {
                tried.send(c, 0);
            }
            told[i] = lot.nextInt(6) == 0 ? skipped : c < 0 ? 0 : tried.cos.get(c).out;
        }
        if (sort > 0 || java.util.Arrays.stream(told).allMatch(v -> v < 128)) {
            Check.onShelf(x, 2, sort, told);
            due("whatProgram", x.whatProgram(2), PlainlyInMind.whatProgram(y, told, skipped));
        }
        for (int i = 0; i < told.length; i++) {
            told[i] = lot.nextInt(6) == 0 ? skipped : y.on(i).ended() + (lot.nextInt(9) == 0 ? 1 : 0);
        }
        Check.onShelf(x, 2, sort, told);
        due("judge", x.judge(2), PlainlyInMind.judge(y, told, skipped));
        int first = -4;
        for (int i = told.length - 1; i >= 0; i--) {
            told[i] = i < y.cos.size() ? y.cos.get(i).state + (lot.nextInt(9) == 0 ? 1 : 0) : lot.nextInt(3);
            first = i >= y.cos.size() || told[i] != y.cos.get(i).state ? i : first;
        }
        Check.onShelf(x, 2, sort, told);
        due("forged", x.forged(2), first);
    }
}
