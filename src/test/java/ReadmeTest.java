import java.nio.file.Files;
import java.nio.file.Path;
import java.util.ArrayList;
import java.util.List;

/** Makes the calls of the examples in README.md, whose answers stand behind them. */
public final class ReadmeTest extends Cases {
    private final ArrowDiagrams x = new ArrowDiagrams();
    private final List<String> lines = new ArrayList<>();
    private int shown = 0;

    public static void main(String[] args) throws Exception {
        ReadmeTest test = new ReadmeTest();
        test.findExamples();
        test.square();
        test.text();
        test.pasting();
        test.functions();
        test.due("all lines of the examples are tried", test.shown, test.lines.size());
        test.checks.finish();
    }

    /** Lines without an answer behind them say nothing that could be wrong. */
    private void findExamples() throws Exception {
        boolean inside = false;
        for (String line : Files.readAllLines(Path.of("README.md"))) {
            if (line.startsWith("```")) {
                inside = line.equals("```java");
            } else if (inside && line.contains("// ")) {
                lines.add(line);
            }
        }
    }

    /** The next line of the examples is this call, and tells this answer. */
    private void line(String call, Object answer) {
        String line = shown < lines.size() ? lines.get(shown) : "";
        shown++;
        checks.due("README.md, line " + shown + " of the examples",
                line.replaceAll(" +// ([^:]*):.*", " $1"), "x." + call + "; " + answer);
    }

    private void square() {
        line("begin(4)", x.begin(4));
        line("addArrow(0, 1)", x.addArrow(0, 1));
        line("addArrow(0, 2)", x.addArrow(0, 2));
        line("addArrow(1, 3)", x.addArrow(1, 3));
        line("addArrow(2, 3)", x.addArrow(2, 3));
    }

    private void text() {
        write(x, "ac=bd;03");
        line("firstError()", x.firstError());
        line("load()", x.load());
        line("append('a')", x.append('a'));
        line("append('c')", x.append('c'));
        line("find()", x.find());
        line("clearInput()", x.clearInput());
    }

    private void pasting() {
        line("between(0, 3, false)", x.between(0, 3, false));
        line("between(0, 3, true)", x.between(0, 3, true));
        line("path(10, 3)", x.path(10, 3));
        line("commuting()", x.commuting());
        line("distance(8, 10)", x.distance(8, 10));
        line("addCell(8, 9)", x.addCell(8, 9));
        line("distance(8, 10)", x.distance(8, 10));
        line("proof(8, 10, 0, 0)", x.proof(8, 10, 0, 0));
        line("proof(8, 10, 0, 1)", x.proof(8, 10, 0, 1));
        line("addCell(8, 10)", x.addCell(8, 10));
        line("cell(2, 2)", x.cell(2, 2));
        line("cell(2, 3)", x.cell(2, 3));
        line("count(7)", x.count(7));
    }

    private void functions() {
        line("dropCell(2)", x.dropCell(2));
        line("dropCell(1)", x.dropCell(1));
        line("separate(8, 9)", x.separate(8, 9));
        line("apply(8, 0)", x.apply(8, 0));
        line("apply(9, 0)", x.apply(9, 0));
        line("imageShare(9)", x.imageShare(9));
        line("setSize(0, 4)", x.setSize(0, 4));
        line("setFunction(0, 80)", x.setFunction(0, 80));
        line("setFunction(1, 68)", x.setFunction(1, 68));
        line("isProduct(0, 1)", x.isProduct(0, 1));
        line("isPullback(0, 2, 1, 3)", x.isPullback(0, 2, 1, 3));
        line("isEqualizer(0, 2, 2)", x.isEqualizer(0, 2, 2));
    }
}
