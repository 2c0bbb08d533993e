/** What the tests share: answers that are due, and texts put on shelves. */
final class Check {
    private int wrong = 0;
    private int looked = 0;

    void due(String call, long got, long want) {
        looked++;
        if (got != want) {
            wrong++;
            if (wrong <= 50) {
                System.out.println(call + " answered " + got + ", due is " + want);
            }
        }
    }

    boolean hasWrong() {
        return wrong > 0;
    }

    void end(String name) {
        System.out.println(name + ": " + looked + " answers looked at, " + wrong + " wrong");
        System.exit(wrong == 0 && looked > 0 ? 0 : 1);
    }

    /** Puts the text on shelf 7 and has it done. */
    static int text(StepMachines x, String told) {
        onShelf(x, 7, 0, told.chars().toArray());
        return x.text(7);
    }

    static StepMachines of(String told) {
        StepMachines x = new StepMachines();
        if (text(x, told) < 0) {
            throw new IllegalStateException("the text is refused: " + told);
        }
        return x;
    }

    static void onShelf(StepMachines x, int d, int sort, int... numbers) {
        if (x.row(d, sort, numbers.length) != 0) {
            throw new IllegalStateException("no such row");
        }
        for (int i = 0; i < numbers.length; i++) {
            x.put(d, i, numbers[i]);
        }
    }
}
