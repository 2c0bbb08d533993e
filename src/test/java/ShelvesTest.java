/** Promises 31 to 37: shelves, told by hand from the document. */
public final class ShelvesTest {
    private static final Check CHECK = new Check();

    public static void main(String[] args) {
        keeping();
        rows();
        elements();
        copying();
        copyingRefused();
        costs();
        failures();
        CHECK.end("ShelvesTest");
    }

    private static void due(String call, long got, long want) {
        CHECK.due(call, got, want);
    }

    /** 1 IllegalArgumentException, 2 IllegalStateException, 0 nothing. */
    private static int thrown(StepMachines x, int d, int i) {
        try {
            x.element(d, i);
            return 0;
        } catch (IllegalArgumentException e) {
            return 1;
        } catch (IllegalStateException e) {
            return 2;
        }
    }

    private static void keeping() {
        StepMachines x = new StepMachines();
        due("keep", x.keep(0, 1, 5, 9), 0);
        due("kept", x.cost(0), 11);
        due("nothing, whatever else", x.keep(0, 0, 99, -7), 0);
        due("nothing kept", x.cost(0), -11);
        due("shelf", x.keep(8, 1, 0, 0), -1);
        due("shelf", x.keep(-1, 0, 0, 0), -1);
        due("what", x.keep(0, 2, 0, 0), -1);
        due("what", x.keep(0, -1, 0, 0), -1);
        due("kind", x.keep(0, 1, 6, 0), -1);
        due("kind", x.keep(0, 1, -1, 0), -1);
        due("figure", x.keep(0, 1, 0, 10), -1);
        due("figure", x.keep(0, 1, 0, -1), -1);
        due("nothing changes", x.cost(0), -11);
        x.row(7, 0, 2);
        due("in place of a row", x.keep(7, 1, 0, 3), 0);
        due("no row", x.put(7, 0, 0), -12);
        x.row(7, 0, 2);
        due("a row in its place", x.cost(7), -12);
        x.keep(7, 0, 0, 0);
        due("nothing", x.put(7, 0, 0), -11);
    }

    private static void rows() {
        StepMachines x = new StepMachines();
        due("row", x.row(0, 0, 100), 0);
        due("0 at first", x.element(0, 99), 0);
        due("101", x.row(0, 0, 101), -1);
        due("shelf", x.row(8, 0, 1), -1);
        due("shelf", x.row(-1, 0, -1), -1);
        due("sort", x.row(0, 3, -1), -1);
        due("sort", x.row(0, -1, 1), -1);
        due("below 0", x.row(0, 2, -1), -14);
        due("below 0", x.row(0, 2, Integer.MIN_VALUE), -14);
        due("nothing changes", x.put(0, 99, 1), 0);
        due("empty", x.row(0, 1, 0), 0);
        due("no place", x.put(0, 0, 1), -13);
        x.row(0, 2, 3);
        x.put(0, 1, 5);
        x.row(0, 2, 3);
        due("a new row", x.element(0, 1), 0);
    }

    private static void elements() {
        StepMachines x = new StepMachines();
        int[] values = {0, 1, 127, 128, 255, 256, -128, -129, 32767, 32768, 65535, 70000, -32769, Integer.MAX_VALUE,
            Integer.MIN_VALUE};
        for (int v : values) {
            for (int sort = 0; sort < 3; sort++) {
                x.row(sort, sort, 2);
                due("put", x.put(sort, 1, v), 0);
                due("element", x.element(sort, 1), sort == 0 ? (byte) v : sort == 1 ? (short) v : v);
                due("the other", x.element(sort, 0), 0);
            }
        }
        x.keep(3, 1, 0, 0);
        due("put: shelf", x.put(8, 0, 0), -1);
        due("put: shelf", x.put(-1, 0, 0), -1);
        due("put: nothing", x.put(4, 0, 0), -11);
        due("put: a manner", x.put(3, 0, 0), -12);
        due("put: place", x.put(0, 2, 0), -13);
        due("put: place", x.put(0, -1, 0), -13);
        due("element", thrown(x, 0, 1), 0);
        due("element: shelf", thrown(x, 8, 0), 1);
        due("element: shelf", thrown(x, -1, 0), 1);
        due("element: nothing", thrown(x, 4, 0), 2);
        due("element: a manner", thrown(x, 3, 0), 2);
        due("element: place", thrown(x, 0, 2), 2);
        due("element: place", thrown(x, 0, -1), 2);
    }

    private static void copying() {
        StepMachines x = new StepMachines();
        Check.onShelf(x, 0, 1, 1, 2, 3, 4, 5);
        Check.onShelf(x, 1, 1, 0, 0, 0, 0);
        due("three", x.copy(0, 1, 1, 0, 3), 3);
        due("the first", x.element(1, 0), 2);
        due("the last", x.element(1, 2), 4);
        due("not more", x.element(1, 3), 0);
        due("stays", x.element(0, 1), 2);
        due("onto itself", x.copy(0, 0, 0, 1, 4), 4);
        due("as they were", x.element(0, 4) * 10 + x.element(0, 2), 42);
        due("and back", x.copy(0, 2, 0, 0, 3), 3);
        due("as they were", x.element(0, 0) * 100 + x.element(0, 1) * 10 + x.element(0, 2), 234);
        due("none", x.copy(0, 2, 1, 1, 0), 0);
        due("none at the end", x.copy(0, 5, 1, 4, 0), 0);
        due("all", x.copy(1, 0, 0, 0, 4), 4);
    }

    private static void copyingRefused() {
        StepMachines x = new StepMachines();
        Check.onShelf(x, 0, 1, 1, 2, 3, 4, 5);
        Check.onShelf(x, 1, 1, 0, 0, 0, 0);
        Check.onShelf(x, 2, 2, 0, 0, 0, 0);
        x.keep(3, 1, 0, 0);
        due("shelf", x.copy(8, 0, 4, 0, 1), -1);
        due("shelf", x.copy(4, 0, -1, 0, 1), -1);
        due("nothing", x.copy(4, 0, 3, 0, 1), -11);
        due("nothing", x.copy(3, 0, 4, 0, 1), -11);
        due("a manner", x.copy(3, 0, 0, 0, 1), -12);
        due("a manner", x.copy(0, 0, 3, 0, 1), -12);
        due("two manners", x.copy(3, 0, 3, 0, 1), -12);
        due("kinds", x.copy(0, 9, 2, 9, 9), -12);
        due("from", x.copy(0, -1, 1, 0, 1), -13);
        due("from", x.copy(0, 5, 1, 0, 1), -13);
        due("from", x.copy(0, 6, 1, 0, 0), -13);
        due("to", x.copy(0, 0, 1, -1, 1), -13);
        due("to", x.copy(0, 0, 1, 4, 1), -13);
        due("to", x.copy(0, 0, 1, 2, 3), -13);
        due("too many", x.copy(0, 0, 1, 0, 5), -13);
        due("below 0", x.copy(0, 1, 1, 1, -1), -13);
        due("far", x.copy(0, Integer.MAX_VALUE, 1, 0, Integer.MAX_VALUE), -13);
        due("far", x.copy(0, 1, 1, 1, Integer.MAX_VALUE), -13);
        due("nothing changes", x.element(1, 0), 0);
    }

    private static void costs() {
        StepMachines x = new StepMachines();
        for (int figure = 0; figure < 10; figure++) {
            int[] wants = {figure, 1, 2 * figure, 4, 0, figure + 2};
            for (int kind = 0; kind < 6; kind++) {
                x.keep(0, 1, kind, figure);
                due("cost " + kind, x.cost(0), wants[kind]);
            }
        }
        x.row(1, 0, 0);
        due("shelf", x.cost(8), -1);
        due("shelf", x.cost(-1), -1);
        due("nothing", x.cost(2), -11);
        due("a row", x.cost(1), -12);
    }

    private static void failures() {
        StepMachines x = new StepMachines();
        for (int figure = 0; figure < 10; figure++) {
            int[] wants = {figure, 100 + figure, -15, 100 + figure, -15, 202 + figure};
            for (int kind = 0; kind < 6; kind++) {
                x.keep(0, 1, kind, figure);
                due("toss " + kind, x.toss(0), figure == 0 ? -15 : wants[kind]);
            }
        }
        x.row(1, 0, 0);
        due("shelf", x.toss(8), -1);
        due("shelf", x.toss(-1), -1);
        due("nothing", x.toss(2), -11);
        due("a row", x.toss(1), -12);
    }
}
