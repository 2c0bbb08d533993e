/** Promises 31 to 37: a test of its own for each sentence that names a boundary, told by hand. */
public final class EdgesOfShelvesTest {
    private static final int MIN = Integer.MIN_VALUE;
    private static final int MAX = Integer.MAX_VALUE;
    private static final int[] NO_SHELVES = {-1, 8, MIN, MAX};
    private static final Check CHECK = new Check();

    public static void main(String[] args) {
        keepingRefused();
        keeping();
        rowsRefused();
        rows();
        putting();
        lowestBits();
        elements();
        copyingRefused();
        copyingFromNowhere();
        copying();
        costs();
        failures();
        failuresThatAreNone();
        CHECK.dueSentences(31, 37);
        CHECK.end("EdgesOfShelvesTest");
    }

    private static void due(String call, long got, long want) {
        CHECK.due(call, got, want);
    }

    /** What element() throws: 1 IllegalArgumentException, 2 IllegalStateException, 0 nothing. */
    private static int thrown(StepMachines x, int d, int i) {
        try {
            x.element(d, i);
            return 0;
        } catch (IllegalArgumentException e) {
            return 1;
        } catch (IllegalStateException e) {
            return 2;
        }
    }

    private static void keepingRefused() {
        CHECK.says(31, "-1 no such SHELF (0 .. 7)", () -> {
            StepMachines x = new StepMachines();
            for (int d : NO_SHELVES) {
                due("a manner on " + d, x.keep(d, 1, 0, 0), -1);
                due("nothing on " + d, x.keep(d, 0, 0, 0), -1);
            }
            due("the last", x.keep(7, 1, 0, 0), 0);
        });
        CHECK.says(31, "-1 what (0, 1)", () -> {
            StepMachines x = new StepMachines();
            x.keep(0, 1, 0, 3);
            for (int what : new int[] {-1, 2, MIN, MAX}) {
                due("what " + what, x.keep(0, what, 0, 0), -1);
            }
            due("as it was", x.cost(0), 3);
        });
        CHECK.says(31, "-1 KIND (0 .. 5), FIGURE (0 .. 9)", () -> {
            StepMachines x = new StepMachines();
            x.keep(0, 1, 0, 3);
            for (int kind : new int[] {-1, 6, MIN, MAX}) {
                due("kind " + kind, x.keep(0, 1, kind, 0), -1);
            }
            for (int figure : new int[] {-1, 10, MIN, MAX}) {
                due("figure " + figure, x.keep(0, 1, 0, figure), -1);
            }
            due("as it was", x.cost(0), 3);
            due("the greatest", x.keep(0, 1, 5, 9), 0);
        });
    }

    private static void keeping() {
        CHECK.says(31, "what = 0 nothing (the others do not matter)", () -> {
            for (int other : new int[] {-1, 6, 10, MIN, MAX}) {
                StepMachines x = new StepMachines();
                x.keep(0, 1, 0, 3);
                due("kind " + other, x.keep(0, 0, other, 0), 0);
                due("nothing is there", x.cost(0), -11);
                x.keep(0, 1, 0, 3);
                due("figure " + other, x.keep(0, 0, 0, other), 0);
                due("nothing is there", x.cost(0), -11);
            }
            due("where nothing was", new StepMachines().keep(3, 0, 0, 0), 0);
        });
        CHECK.says(31, "SHELVES hold nothing, a MANNER or a ROW: one in place of the other", () -> {
            StepMachines x = new StepMachines();
            x.row(2, 0, 3);
            due("a manner", x.keep(2, 1, 0, 3), 0);
            due("no row", x.put(2, 0, 0), -12);
            due("a row", x.row(2, 0, 3), 0);
            due("no manner", x.cost(2), -12);
            due("nothing", x.keep(2, 0, 0, 0), 0);
            due("no row", x.put(2, 0, 0), -11);
            due("no manner", x.cost(2), -11);
        });
        CHECK.says(31, "SHELVES 0 .. 7: each by itself", () -> {
            StepMachines x = new StepMachines();
            for (int d = 0; d < 8; d++) {
                x.keep(d, 1, 0, d);
            }
            for (int d = 0; d < 8; d++) {
                due("shelf " + d, x.cost(d), d);
            }
        });
    }

    private static void rowsRefused() {
        CHECK.says(32, "-1 no such SHELF, no such kind (0 .. 2)", () -> {
            StepMachines x = new StepMachines();
            for (int d : NO_SHELVES) {
                due("shelf " + d, x.row(d, 0, 1), -1);
            }
            for (int sort : new int[] {-1, 3, MIN, MAX}) {
                due("sort " + sort, x.row(0, sort, 1), -1);
            }
            due("nothing is there", x.put(0, 0, 0), -11);
        });
        CHECK.says(32, "-1 (n above 100)", () -> {
            StepMachines x = new StepMachines();
            due("101", x.row(0, 0, 101), -1);
            due("far above", x.row(0, 0, MAX), -1);
            due("100", x.row(0, 0, 100), 0);
            due("its last", x.put(0, 99, 1), 0);
            due("none behind it", x.put(0, 100, 1), -13);
        });
        CHECK.says(32, "-14 a size below 0", () -> {
            StepMachines x = new StepMachines();
            due("-1", x.row(0, 0, -1), -14);
            due("far below", x.row(0, 0, MIN), -14);
            due("nothing is there", x.put(0, 0, 0), -11);
            due("0", x.row(0, 0, 0), 0);
        });
        CHECK.says(32, "-1 goes ahead of -14", () -> {
            due("shelf", new StepMachines().row(8, 0, -1), -1);
            due("sort", new StepMachines().row(0, 3, -1), -1);
        });
        CHECK.says(32, "refused, nothing changes: what is there stays", () -> {
            StepMachines x = new StepMachines();
            x.keep(0, 1, 0, 4);
            due("below 0", x.row(0, 0, -1), -14);
            due("above 100", x.row(0, 0, 101), -1);
            due("a manner", x.cost(0), 4);
        });
    }

    private static void rows() {
        CHECK.says(32, "0 .. 100 elements, 0 at first", () -> {
            for (int sort = 0; sort < 3; sort++) {
                StepMachines x = new StepMachines();
                due("100", x.row(0, sort, 100), 0);
                for (int i = 0; i < 100; i++) {
                    due("element " + i, x.element(0, i), 0);
                }
                due("none behind", thrown(x, 0, 100), 2);
                due("none", x.row(0, sort, 0), 0);
                due("not even the first", thrown(x, 0, 0), 2);
            }
        });
        CHECK.says(32, "0 at first: a ROW in place of another one, too", () -> {
            StepMachines x = new StepMachines();
            Check.onShelf(x, 0, 2, 7, 8, 9);
            due("once more", x.row(0, 2, 3), 0);
            due("the second", x.element(0, 1), 0);
        });
    }

    private static void putting() {
        CHECK.says(33, "-1, -11, -12", () -> {
            StepMachines x = new StepMachines();
            for (int d : NO_SHELVES) {
                due("shelf " + d, x.put(d, 0, 0), -1);
            }
            due("nothing held", x.put(0, 0, 0), -11);
            due("nothing held, no such place", x.put(0, -1, 0), -11);
            x.keep(0, 1, 0, 0);
            due("a manner", x.put(0, 0, 0), -12);
            due("a manner, no such place", x.put(0, 100, 0), -12);
        });
        CHECK.says(33, "-13 a place that isn't there", () -> {
            StepMachines x = new StepMachines();
            Check.onShelf(x, 0, 2, 5, 6);
            for (int i : new int[] {-1, 2, 100, MIN, MAX}) {
                due("place " + i, x.put(0, i, 9), -13);
            }
            due("as they were", x.element(0, 0) * 10 + x.element(0, 1), 56);
            due("the last", x.put(0, 1, 9), 0);
            due("it is", x.element(0, 1), 9);
            x.row(0, 0, 0);
            due("of none", x.put(0, 0, 9), -13);
        });
    }

    private static void lowestBits() {
        CHECK.says(33, "what is put in keeps its lowest bits: bytes", () -> {
            int[] put = {127, 128, 255, 256, -128, -129, -1, 32768, MAX, MIN, 200};
            int[] wants = {127, -128, -1, 0, -128, 127, -1, 0, -1, 0, -56};
            dueKept(0, put, wants);
        });
        CHECK.says(33, "what is put in keeps its lowest bits: shorts", () -> {
            int[] put = {32767, 32768, 65535, 65536, -32768, -32769, -1, 128, MAX, MIN, 40000};
            int[] wants = {32767, -32768, -1, 0, -32768, 32767, -1, 128, -1, 0, -25536};
            dueKept(1, put, wants);
        });
        CHECK.says(33, "what is put in keeps its lowest bits: ints", () -> {
            int[] put = {MAX, MIN, 65536, -1, 0};
            dueKept(2, put, put);
        });
    }

    private static void dueKept(int sort, int[] put, int[] wants) {
        StepMachines x = new StepMachines();
        x.row(0, sort, 1);
        for (int i = 0; i < put.length; i++) {
            due("put " + put[i], x.put(0, 0, put[i]), 0);
            due("element of " + put[i], x.element(0, 0), wants[i]);
        }
    }

    private static void elements() {
        CHECK.says(34, "IllegalArgumentException: no such SHELF", () -> {
            for (int d : NO_SHELVES) {
                due("shelf " + d, thrown(new StepMachines(), d, 0), 1);
                due("shelf " + d + ", no such place", thrown(new StepMachines(), d, -1), 1);
            }
        });
        CHECK.says(34, "IllegalStateException: no ROW", () -> {
            StepMachines x = new StepMachines();
            due("nothing", thrown(x, 7, 0), 2);
            x.keep(7, 1, 0, 0);
            due("a manner", thrown(x, 7, 0), 2);
        });
        CHECK.says(34, "IllegalStateException: no such place", () -> {
            StepMachines x = new StepMachines();
            Check.onShelf(x, 0, 0, 5, 6);
            for (int i : new int[] {-1, 2, 100, MIN, MAX}) {
                due("place " + i, thrown(x, 0, i), 2);
            }
            due("the first", x.element(0, 0), 5);
            due("the last", x.element(0, 1), 6);
        });
        CHECK.says(34, "it is thrown each time, and nothing changes", () -> {
            StepMachines x = Check.of("c000;");
            for (int k = 0; k < 3; k++) {
                due("thrown", thrown(x, 8, 0) * 10 + thrown(x, 0, 0), 12);
            }
            due("coroutines", x.count(0), 1);
        });
    }

    private static StepMachines withRows() {
        StepMachines x = new StepMachines();
        Check.onShelf(x, 0, 1, 1, 2, 3, 4, 5);
        Check.onShelf(x, 1, 1, 0, 0, 0, 0);
        x.row(2, 0, 5);
        x.row(3, 2, 5);
        x.keep(4, 1, 0, 0);
        return x;
    }

    private static void copyingRefused() {
        CHECK.says(35, "-1 no such SHELF, either", () -> {
            StepMachines x = withRows();
            for (int d : NO_SHELVES) {
                due("from " + d, x.copy(d, 0, 1, 0, 1), -1);
                due("to " + d, x.copy(0, 0, d, 0, 1), -1);
                due("from nothing to " + d, x.copy(5, 0, d, 0, 1), -1);
            }
        });
        CHECK.says(35, "-11 (either)", () -> {
            StepMachines x = withRows();
            due("from", x.copy(5, 0, 1, 0, 1), -11);
            due("to", x.copy(0, 0, 5, 0, 1), -11);
            due("from a manner", x.copy(4, 0, 5, 0, 1), -11);
            due("to a manner", x.copy(5, 0, 4, 0, 1), -11);
            due("ahead of a place", x.copy(5, -1, 1, 0, 1), -11);
        });
        CHECK.says(35, "-12 (no ROWS of one kind)", () -> {
            StepMachines x = withRows();
            due("a manner", x.copy(4, 0, 1, 0, 1), -12);
            due("a manner", x.copy(0, 0, 4, 0, 1), -12);
            due("a manner twice", x.copy(4, 0, 4, 0, 1), -12);
            for (int d = 2; d < 4; d++) {
                due("to another kind", x.copy(0, 0, d, 0, 1), -12);
                due("from another kind", x.copy(d, 0, 0, 0, 1), -12);
                due("none at all", x.copy(0, 0, d, 0, 0), -12);
                due("ahead of a place", x.copy(0, -1, d, 9, 99), -12);
            }
            due("bytes and ints", x.copy(2, 0, 3, 0, 1), -12);
        });
    }

    private static void copyingFromNowhere() {
        CHECK.says(35, "-13 a place that isn't there", () -> {
            StepMachines x = withRows();
            for (int i : new int[] {-1, 5, 100, MIN, MAX}) {
                due("from " + i, x.copy(0, i, 1, 0, 1), -13);
            }
            for (int j : new int[] {-1, 4, 100, MIN, MAX}) {
                due("to " + j, x.copy(0, 0, 1, j, 1), -13);
            }
            due("none from behind the end", x.copy(0, 6, 1, 0, 0), -13);
            due("none to behind the end", x.copy(0, 0, 1, 5, 0), -13);
            due("none from ahead of the first", x.copy(0, -1, 1, 0, 0), -13);
        });
        CHECK.says(35, "-13 (a number or a size that isn't as told, too)", () -> {
            StepMachines x = withRows();
            for (int n : new int[] {-1, 5, 6, 101, MIN, MAX}) {
                due("n " + n, x.copy(0, 0, 1, 0, n), -13);
                due("n " + n + " in the middle", x.copy(0, 1, 1, 1, n), -13);
            }
            due("from the last but one", x.copy(0, 4, 1, 0, 2), -13);
            due("to the last but one", x.copy(0, 0, 1, 3, 2), -13);
            due("far", x.copy(0, MAX, 1, MAX, MAX), -13);
            due("far below", x.copy(0, MIN, 1, MIN, MIN), -13);
            due("nothing came", x.element(1, 0) + x.element(1, 3), 0);
        });
    }

    private static long told(StepMachines x, int d, int size) {
        long told = 0;
        for (int i = 0; i < size; i++) {
            told = told * 10 + x.element(d, i);
        }
        return told;
    }

    private static void copying() {
        CHECK.says(35, "n elements: 0", () -> {
            StepMachines x = withRows();
            due("none", x.copy(0, 0, 1, 0, 0), 0);
            due("none at the ends", x.copy(0, 5, 1, 4, 0), 0);
            due("nothing came", told(x, 1, 4), 0);
            x.row(5, 1, 0);
            due("none of none", x.copy(5, 0, 5, 0, 0), 0);
        });
        CHECK.says(35, "n elements: all", () -> {
            StepMachines x = withRows();
            due("from the first", x.copy(0, 0, 1, 0, 4), 4);
            due("they are there", told(x, 1, 4), 1234);
            due("to the last", x.copy(0, 1, 1, 0, 4), 4);
            due("they are there", told(x, 1, 4), 2345);
            due("those stay", told(x, 0, 5), 12345);
        });
        CHECK.says(35, "of a full ROW 100", () -> {
            StepMachines x = new StepMachines();
            x.row(0, 2, 100);
            x.row(1, 2, 100);
            x.put(0, 0, MIN);
            x.put(0, 99, MAX);
            due("100", x.copy(0, 0, 1, 0, 100), 100);
            due("the first", x.element(1, 0), MIN);
            due("the last", x.element(1, 99), MAX);
            due("101", x.copy(0, 0, 1, 0, 101), -13);
        });
        CHECK.says(35, "one ROW onto itself: what is there comes as it was", () -> {
            StepMachines x = withRows();
            due("behind", x.copy(0, 0, 0, 1, 4), 4);
            due("as they were", told(x, 0, 5), 11234);
            due("ahead", x.copy(0, 2, 0, 0, 3), 3);
            due("as they were", told(x, 0, 5), 23434);
            due("there", x.copy(0, 0, 0, 0, 5), 5);
            due("as they were", told(x, 0, 5), 23434);
        });
        CHECK.says(35, "elements of bytes, of shorts", () -> {
            for (int sort = 0; sort < 2; sort++) {
                StepMachines x = new StepMachines();
                Check.onShelf(x, 0, sort, -1, 127);
                x.row(1, sort, 2);
                due("both", x.copy(0, 0, 1, 0, 2), 2);
                due("below 0", x.element(1, 0), -1);
                due("above", x.element(1, 1), 127);
            }
        });
    }

    private static void dueOnes(int promise, boolean tossed) {
        CHECK.says(promise, "-1, -11, -12 (a ROW)", () -> {
            StepMachines x = new StepMachines();
            for (int d : NO_SHELVES) {
                due("shelf " + d, tossed ? x.toss(d) : x.cost(d), -1);
            }
            due("nothing held", tossed ? x.toss(0) : x.cost(0), -11);
            for (int sort = 0; sort < 3; sort++) {
                x.row(0, sort, sort);
                due("a row", tossed ? x.toss(0) : x.cost(0), -12);
            }
        });
    }

    private static int tossed(int kind, int figure) {
        StepMachines x = new StepMachines();
        x.keep(0, 1, kind, figure);
        int first = x.toss(0);
        due("once more", x.toss(0), first);
        return first;
    }

    private static int costOf(int kind, int figure) {
        StepMachines x = new StepMachines();
        x.keep(0, 1, kind, figure);
        return x.cost(0);
    }

    private static void costs() {
        dueOnes(36, false);
        CHECK.says(36, "PLAIN FIGURE; STURDY 2 more than a PLAIN one", () -> {
            for (int figure = 0; figure < 10; figure++) {
                due("plain " + figure, costOf(0, figure), figure);
                due("sturdy " + figure, costOf(5, figure), figure + 2);
            }
        });
        CHECK.says(36, "EAGER 1; LOUD 3 more than an EAGER one", () -> {
            for (int figure = 0; figure < 10; figure++) {
                due("eager " + figure, costOf(1, figure), 1);
                due("loud " + figure, costOf(3, figure), 4);
            }
        });
        CHECK.says(36, "SHY twice FIGURE; MEEK 0", () -> {
            for (int figure = 0; figure < 10; figure++) {
                due("shy " + figure, costOf(2, figure), 2 * figure);
                due("meek " + figure, costOf(4, figure), 0);
            }
        });
    }

    private static void failures() {
        dueOnes(37, true);
        CHECK.says(37, "its FIGURE (1 .. 9)", () -> {
            for (int figure = 1; figure < 10; figure++) {
                due("plain " + figure, tossed(0, figure), figure);
            }
        });
        CHECK.says(37, "of EAGER ones 100 more (LOUD ones too)", () -> {
            for (int figure = 1; figure < 10; figure++) {
                due("eager " + figure, tossed(1, figure), 100 + figure);
                due("loud " + figure, tossed(3, figure), 100 + figure);
            }
        });
        CHECK.says(37, "of STURDY ones 200 plus what they COST, in place of all that (FIGURE, too)", () -> {
            for (int figure = 1; figure < 10; figure++) {
                due("sturdy " + figure, tossed(5, figure), 202 + figure);
            }
        });
    }

    private static void failuresThatAreNone() {
        CHECK.says(37, "-15: SHY, MEEK ones have none", () -> {
            for (int figure = 0; figure < 10; figure++) {
                due("shy " + figure, tossed(2, figure), -15);
                due("meek " + figure, tossed(4, figure), -15);
            }
        });
        CHECK.says(37, "-15: any with FIGURE 0 have none", () -> {
            for (int kind = 0; kind < 6; kind++) {
                due("kind " + kind, tossed(kind, 0), -15);
            }
        });
    }
}
