/** What the tests share: answers that are due, sentences with a test of their own, texts on shelves. */
final class Check {
    private int wrong = 0;
    private int looked = 0;
    private int sentences = 0;
    private String saying = "";
    private final boolean[] told = new boolean[38];

    void due(String call, long got, long want) {
        looked++;
        if (got != want) {
            isWrong(saying + call + " answered " + got + ", due is " + want);
        }
    }

    /** A test by itself for a sentence of the document: what it throws is a wrong answer, not the end. */
    void says(int promise, String words, Runnable test) {
        told[promise] = true;
        sentences++;
        saying = "promise " + promise + ", \"" + words + "\": ";
        int before = looked;
        try {
            test.run();
        } catch (RuntimeException e) {
            isWrong(saying + "threw " + e);
        }
        if (looked == before) {
            isWrong(saying + "nothing was looked at");
        }
        saying = "";
    }

    /** Each promise from the first to the last has a sentence that is tested. */
    void dueSentences(int first, int last) {
        for (int promise = first; promise <= last; promise++) {
            if (!told[promise]) {
                isWrong("promise " + promise + " has no sentence with a test");
            }
        }
    }

    private void isWrong(String what) {
        wrong++;
        if (wrong <= 50) {
            System.out.println(what);
        }
    }

    boolean hasWrong() {
        return wrong > 0;
    }

    void end(String name) {
        String said = sentences == 0 ? "" : sentences + " sentences, ";
        System.out.println(name + ": " + said + looked + " answers looked at, " + wrong + " wrong");
        System.exit(wrong == 0 && looked > 0 ? 0 : 1);
    }

    /** Puts the text on shelf 7 and has it done. */
    static int text(StepMachines x, String told) {
        onShelf(x, 7, 0, told.chars().toArray());
        return x.text(7);
    }

    static StepMachines of(String told) {
        StepMachines x = new StepMachines();
        if (text(x, told) < 0) {
            throw new IllegalStateException("the text is refused: " + told);
        }
        return x;
    }

    static void onShelf(StepMachines x, int d, int sort, int... numbers) {
        if (x.row(d, sort, numbers.length) != 0) {
            throw new IllegalStateException("no such row");
        }
        for (int i = 0; i < numbers.length; i++) {
            x.put(d, i, numbers[i]);
        }
    }
}
