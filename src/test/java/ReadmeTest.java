import java.io.IOException;
import java.nio.file.Files;
import java.nio.file.Path;

/** What README.md tells of calls: each stands there with just the answer that it has. */
public final class ReadmeTest {
    private static final Check CHECK = new Check();
    private static String page = "";

    public static void main(String[] args) throws IOException {
        page = Files.readString(Path.of("README.md"));
        StepMachines x = new StepMachines();
        String told = "p0a5y2;c000;";
        CHECK.due("the text stands there", page.contains("String told = \"" + told + "\";") ? 1 : 0, 1);
        x.row(0, 0, told.length());
        for (int i = 0; i < told.length(); i++) {
            x.put(0, i, told.charAt(i));
        }
        due("x.text(0);", x.text(0));
        due("x.send(0, 0);", x.send(0, 0));
        due("x.coroutine(0, 2);", x.coroutine(0, 2));
        due("x.ends(0);", x.ends(0));
        due("x.image();", x.image());
        due("x.then(0, 1, 0);", x.then(0, 1, 0));
        due("x.coroutine(0, 0);", x.coroutine(0, 0));
        due("x.rounds(1);", x.rounds(1));
        due("x.lost(0, 0, 2, 0);", x.lost(0, 0, 2, 0));
        due("x.restore();", x.restore());
        due("x.close(0);", x.close(0));
        due("x.send(0, 5);", x.send(0, 5));
        due("x.share(2);", x.share(2));
        dueThrown(x, 8, "IllegalArgumentException");
        dueThrown(x, 1, "IllegalStateException");
        CHECK.end("ReadmeTest");
    }

    private static void due(String call, long answer) {
        CHECK.due(call + " // " + answer + " in README.md", tells(call, String.valueOf(answer)), 1);
    }

    private static void dueThrown(StepMachines x, int d, String name) {
        String thrown = "nothing";
        try {
            x.element(d, 0);
        } catch (IllegalArgumentException | IllegalStateException e) {
            thrown = e.getClass().getSimpleName();
        }
        CHECK.due("element(" + d + ", 0) throws " + thrown, thrown.equals(name) ? 1 : 0, 1);
        CHECK.due(name + " in README.md", tells("x.element(" + d + ", 0);", "throws " + name), 1);
    }

    private static int tells(String call, String answer) {
        for (String line : page.split("\n")) {
            int said = line.indexOf("// ");
            if (line.startsWith(call) && said > 0 && line.substring(said + 3).matches(answer + "($|\\D.*)")) {
                return 1;
            }
        }
        return 0;
    }
}
