import java.util.ArrayList;
import java.util.List;

/**
 * Every "Throws .. if .." sentence of the promises, at the first value that is not allowed, and two
 * sentences of the description: "A call that throws an exception changes nothing. If several
 * exceptions apply, the one that is named first in the throws clause is thrown."
 *
 * What nothing is changed means is tried on twins: the one makes the refused call, the other does
 * not, and both have to answer the same ever after.
 */
public final class RefusedTest extends Cases {
    private static final int[] FAR = {LOW, LOW + 1, HIGH - 1, HIGH};

    public static void main(String[] args) {
        RefusedTest test = new RefusedTest();
        test.begin();
        test.addArrow();
        test.addArrowBeyondTheLimits();
        test.dropArrow();
        test.addCell();
        test.dropCell();
        test.append();
        test.load();
        test.path();
        test.arrowOf();
        test.between();
        test.distance();
        test.proof();
        test.cell();
        test.count();
        test.setSize();
        test.setFunction();
        test.apply();
        test.imageShare();
        test.separate();
        test.isProduct();
        test.isPullback();
        test.isPullbackOfNoSquare();
        test.isEqualizer();
        test.checks.finish();
    }

    // ---- the objects before the refused calls

    /** Three objects, a and b from 0 to 1, c from 1 to 2; the paths 3 to 7 are a, b, c, ac and bc. */
    private static ArrowDiagrams small() {
        ArrowDiagrams x = diagram(3, "01;01;12");
        x.addCell(3, 4);
        x.addCell(7, 6);
        x.setSize(0, 3);
        x.setSize(2, 4);
        x.setFunction(1, 17);
        x.setFunction(2, 14);
        write(x, "a=b;12");
        return x;
    }

    private static ArrowDiagrams empty() {
        return new ArrowDiagrams();
    }

    private static ArrowDiagrams arrows14() {
        ArrowDiagrams x = diagram(2, ARROWS_14);
        x.addCell(2, 15);
        x.setFunction(13, 5);
        return x;
    }

    private static ArrowDiagrams paths300() {
        return diagram(6, PATHS_300);
    }

    private static ArrowDiagrams cells10() {
        ArrowDiagrams x = diagram(2, "01;01;01");
        for (int i = 0; i < 10; i++) {
            x.addCell(2 + i % 3, 2 + i % 2);
        }
        return x;
    }

    private static ArrowDiagrams fullBuffer() {
        ArrowDiagrams x = new ArrowDiagrams();
        write(x, "01;".repeat(20));
        return x;
    }

    /** 0 to 1 by a, 1 to 3 by b, 0 to 2 by c, 2 to 3 by d, and more arrows that make no square with them. */
    private static ArrowDiagrams square() {
        ArrowDiagrams x = diagram(5, "01;13;02;23;12;34;24");
        x.setFunction(0, 4);
        x.setFunction(3, 1);
        return x;
    }

    // ---- how a refused call is tried

    private void thrown(String call, Start start, Class<? extends RuntimeException> want, Ask ask) {
        ArrowDiagrams x = start.make();
        checks.throwsA(call, want, () -> ask.of(x));
        checks.throwsA(call + " again", want, () -> ask.of(x));
        checks.due(call + " changes nothing", lifeOf(x), lifeOf(start.make()));
    }

    /** What an object answers when it is asked for everything, and then changed in every way. */
    private static List<Object> lifeOf(ArrowDiagrams x) {
        List<Object> answers = new ArrayList<>();
        askForAll(x, answers);
        for (int arrow = 0; arrow < 14; arrow++) {
            note(x, answers, arrow, (y, i) -> y.setFunction(i, 0));
        }
        for (int object = 0; object < 8; object++) {
            note(x, answers, object, (y, i) -> y.setSize(i, 2));
        }
        note(x, answers, 3, (y, i) -> y.separate(i, 4));
        note(x, answers, 0, (y, i) -> y.load());
        note(x, answers, 32, (y, i) -> y.append(i));
        note(x, answers, 0, (y, i) -> y.clearInput());
        note(x, answers, 0, (y, i) -> y.addCell(y.count(0), y.count(0)));
        note(x, answers, 0, (y, i) -> y.dropCell(i));
        note(x, answers, 0, (y, i) -> y.addArrow(i, 1));
        note(x, answers, 0, (y, i) -> y.dropArrow());
        note(x, answers, 0, (y, i) -> y.dropArrow());
        note(x, answers, 0, (y, i) -> y.digest());
        note(x, answers, 2, (y, i) -> y.begin(i));
        note(x, answers, 0, (y, i) -> y.digest());
        return answers;
    }

    private static void askForAll(ArrowDiagrams x, List<Object> answers) {
        note(x, answers, 0, (y, i) -> y.digest());
        note(x, answers, 0, (y, i) -> y.firstError());
        note(x, answers, 0, (y, i) -> y.find());
        for (int what = 0; what < 8; what++) {
            note(x, answers, what, (y, i) -> y.count(i));
        }
        note(x, answers, 0, (y, i) -> y.commuting());
        for (int path = 0; path < 10; path++) {
            for (int what = 0; what < 7; what++) {
                int property = what;
                note(x, answers, path, (y, i) -> y.path(i, property));
            }
            note(x, answers, path, (y, i) -> y.arrowOf(i, 0));
            note(x, answers, path, (y, i) -> y.apply(i, 1));
            note(x, answers, path, (y, i) -> y.imageShare(i));
            note(x, answers, path, (y, i) -> y.distance(i, 3));
            note(x, answers, path, (y, i) -> y.proof(i, 3, 0, 1));
            note(x, answers, path, (y, i) -> y.between(0, i, true));
            note(x, answers, path, (y, i) -> y.cell(i, 3));
        }
    }

    private interface Numbered {
        Object of(ArrowDiagrams x, int number);
    }

    private static void note(ArrowDiagrams x, List<Object> answers, int number, Numbered ask) {
        answers.add(Checks.outcome(() -> ask.of(x, number)));
    }

    // ---- promises 2 to 10

    /** "Throws IllegalArgumentException if objects is out of range" (2 to 8). */
    private void begin() {
        for (int wrong : new int[] {1, 9, 0, -1, -2, 10, LOW, HIGH}) {
            thrown("begin(" + wrong + ")", RefusedTest::small, ARGUMENT, x -> x.begin(wrong));
        }
    }

    /** "if one of the objects does not exist", "if to is not greater than from". */
    private void addArrow() {
        int[][] outside = {{-1, 1}, {0, -1}, {0, 3}, {2, 3}, {3, 4}, {1, HIGH}, {LOW, 2}, {-2, -1}, {LOW, HIGH}};
        for (int[] a : outside) {
            thrown("addArrow(" + a[0] + ", " + a[1] + ")", RefusedTest::small, INDEX, x -> x.addArrow(a[0], a[1]));
        }
        int[][] outsideAndBack = {{3, 0}, {3, 3}, {0, -1}, {-1, -1}, {HIGH, LOW}, {2, LOW}};
        for (int[] a : outsideAndBack) {
            thrown("addArrow(" + a[0] + ", " + a[1] + ")", RefusedTest::small, INDEX, x -> x.addArrow(a[0], a[1]));
        }
        int[][] notGreater = {{0, 0}, {1, 1}, {2, 2}, {1, 0}, {2, 0}, {2, 1}};
        for (int[] a : notGreater) {
            thrown("addArrow(" + a[0] + ", " + a[1] + ")", RefusedTest::small, ARGUMENT, x -> x.addArrow(a[0], a[1]));
        }
    }

    /** "if there are 14 arrows, or there would be more than 300 paths", and the order of the exceptions. */
    private void addArrowBeyondTheLimits() {
        thrown("the 15th arrow", RefusedTest::arrows14, STATE, x -> x.addArrow(0, 1));
        thrown("the 15th arrow, back", RefusedTest::arrows14, ARGUMENT, x -> x.addArrow(1, 0));
        thrown("the 15th arrow, to itself", RefusedTest::arrows14, ARGUMENT, x -> x.addArrow(1, 1));
        thrown("the 15th arrow, outside", RefusedTest::arrows14, INDEX, x -> x.addArrow(0, 2));
        thrown("the 15th arrow, outside and back", RefusedTest::arrows14, INDEX, x -> x.addArrow(2, 0));
        thrown("path 301 of 300", RefusedTest::paths300, STATE, x -> x.addArrow(0, 5));
        thrown("many more than 300 paths", RefusedTest::paths300, STATE, x -> x.addArrow(2, 3));
        thrown("path 301, back", RefusedTest::paths300, ARGUMENT, x -> x.addArrow(5, 0));
        thrown("path 301, outside", RefusedTest::paths300, INDEX, x -> x.addArrow(0, 6));
        thrown("path 301 of 234", () -> diagram(6, PATHS_234), STATE, x -> x.addArrow(4, 5));
        thrown("path 301 of 278", () -> diagram(7, PATHS_278), STATE, x -> x.addArrow(0, 2));
        thrown("path 301 of 278, at the other end", () -> diagram(7, PATHS_278), STATE, x -> x.addArrow(3, 6));
    }

    /** "if there are no arrows". */
    private void dropArrow() {
        thrown("dropArrow of none", RefusedTest::empty, STATE, ArrowDiagrams::dropArrow);
        thrown("dropArrow of none among 8 objects", () -> diagram(8, ""), STATE, ArrowDiagrams::dropArrow);
        thrown("dropArrow when the last one is gone", () -> {
            ArrowDiagrams x = diagram(2, "01");
            x.addCell(0, 0);
            x.dropArrow();
            return x;
        }, STATE, ArrowDiagrams::dropArrow);
    }

    /** "if one of the paths does not exist", "if they are not parallel", "if there are 10 cells". */
    private void addCell() {
        for (int wrong : new int[] {-1, 8, 9, -2, LOW, HIGH}) {
            thrown("addCell(" + wrong + ", 3)", RefusedTest::small, INDEX, x -> x.addCell(wrong, 3));
            thrown("addCell(3, " + wrong + ")", RefusedTest::small, INDEX, x -> x.addCell(3, wrong));
            thrown("addCell twice " + wrong, RefusedTest::small, INDEX, x -> x.addCell(wrong, wrong));
        }
        int[][] notParallel = {{3, 6}, {6, 3}, {5, 6}, {7, 5}, {3, 5}, {0, 1}, {2, 1}, {0, 3}, {1, 3}, {2, 7}};
        for (int[] a : notParallel) {
            thrown("addCell(" + a[0] + ", " + a[1] + ")", RefusedTest::small, ARGUMENT, x -> x.addCell(a[0], a[1]));
        }
        thrown("the 11th cell", RefusedTest::cells10, STATE, x -> x.addCell(2, 3));
        thrown("the 11th cell, of one path", RefusedTest::cells10, STATE, x -> x.addCell(0, 0));
        thrown("the 11th cell, not parallel", RefusedTest::cells10, ARGUMENT, x -> x.addCell(0, 2));
        thrown("the 11th cell, no first path", RefusedTest::cells10, INDEX, x -> x.addCell(5, 2));
        thrown("the 11th cell, no second path", RefusedTest::cells10, INDEX, x -> x.addCell(2, -1));
    }

    /** "if the cell does not exist". */
    private void dropCell() {
        for (int wrong : new int[] {-1, 2, 3, LOW, HIGH}) {
            thrown("dropCell(" + wrong + ") of 2", RefusedTest::small, INDEX, x -> x.dropCell(wrong));
        }
        thrown("dropCell(0) of none", RefusedTest::empty, INDEX, x -> x.dropCell(0));
        thrown("dropCell(10) of 10", RefusedTest::cells10, INDEX, x -> x.dropCell(10));
    }

    /** "if code is not 32 to 126", "if the buffer has 60 characters". */
    private void append() {
        for (int wrong : new int[] {31, 127, 128, 10, 0, -1, 255, 65536 + 'a', LOW, LOW + 'a', HIGH}) {
            thrown("append(" + wrong + ")", RefusedTest::small, ARGUMENT, x -> x.append(wrong));
            thrown("append(" + wrong + ") to 60", RefusedTest::fullBuffer, ARGUMENT, x -> x.append(wrong));
        }
        for (int code : new int[] {32, 126, 'a', ';'}) {
            thrown("append(" + code + ") to 60", RefusedTest::fullBuffer, STATE, x -> x.append(code));
        }
    }

    /** "if the buffer is not a complete text", "if there would be more than 300 paths". */
    private void load() {
        String[] wrong = {"", ";", "0", "01;", "01;1", "a", "ac", "a=", "ac=", "ac=b", "a=bc", "a=b;", "01a",
            "a=c", "10", "11", "03", "2", " 01", "01 ", "a=b=a", "ac=bc;ac", "12;d", "12;e=e", "a", "=a", "a=A", "01;;12"};
        for (String text : wrong) {
            thrown("load of '" + text + "'", () -> {
                ArrowDiagrams x = small();
                x.clearInput();
                write(x, text);
                return x;
            }, ARGUMENT, ArrowDiagrams::load);
        }
        String[] beyond = {"05", "45", "05;a=a", "a=a;05", "01;12;23;34;45"};
        for (int i = 0; i < beyond.length; i++) {
            String text = beyond[i];
            // but one of them has more than 14 arrows, which is an error of the text, and comes first
            Class<? extends RuntimeException> want = i == 4 ? ARGUMENT : STATE;
            thrown("load beyond 300 paths: " + text, () -> written(paths300(), text), want, ArrowDiagrams::load);
        }
        thrown("load of 301 paths at once", () -> written(diagram(6, ""), PATHS_300 + ";05"), STATE, ArrowDiagrams::load);
        thrown("load of path 301 of 234", () -> written(diagram(6, PATHS_234), "45"), STATE, ArrowDiagrams::load);
        thrown("load of 301 paths, not complete", () -> written(paths300(), "05;"), ARGUMENT, ArrowDiagrams::load);
        thrown("load of 301 paths, a syntax error", () -> written(paths300(), "05;o"), ARGUMENT, ArrowDiagrams::load);
        thrown("load of a full buffer with an error", RefusedTest::fullBuffer, ARGUMENT, ArrowDiagrams::load);
    }

    private static ArrowDiagrams written(ArrowDiagrams x, String text) {
        write(x, text);
        return x;
    }

    // ---- promises 12 to 18

    /** "if the path does not exist", "if what is not 0 to 6". */
    private void path() {
        for (int wrong : new int[] {-1, 8, 9, LOW, HIGH}) {
            for (int what : new int[] {0, 3, 6, 7, -1}) {
                thrown("path(" + wrong + ", " + what + ")", RefusedTest::small, INDEX, x -> x.path(wrong, what));
            }
        }
        for (int what : new int[] {-1, 7, 8, LOW, HIGH}) {
            thrown("path(7, " + what + ")", RefusedTest::small, ARGUMENT, x -> x.path(7, what));
            thrown("path(0, " + what + ")", RefusedTest::small, ARGUMENT, x -> x.path(0, what));
        }
        thrown("path(300, 0) of 300", RefusedTest::paths300, INDEX, x -> x.path(300, 0));
    }

    /** "if the path or the arrow does not exist". */
    private void arrowOf() {
        int[][] wrong = {{-1, 0}, {8, 0}, {LOW, 0}, {HIGH, 0}, {0, 0}, {2, 0}, {0, -1}, {3, 1}, {3, -1}, {6, 2}, {7, 2},
            {7, -1}, {7, LOW}, {7, HIGH}, {8, 9}};
        for (int[] a : wrong) {
            thrown("arrowOf(" + a[0] + ", " + a[1] + ")", RefusedTest::small, INDEX, x -> x.arrowOf(a[0], a[1]));
        }
        thrown("arrowOf(300, 0) of 300", RefusedTest::paths300, INDEX, x -> x.arrowOf(300, 0));
        thrown("arrowOf(299, 5) of 300", RefusedTest::paths300, INDEX, x -> x.arrowOf(299, 5));
    }

    /** "if one of the objects does not exist". */
    private void between() {
        for (int wrong : new int[] {-1, 3, 4, LOW, HIGH}) {
            for (boolean classes : new boolean[] {false, true}) {
                thrown("between from " + wrong, RefusedTest::small, INDEX, x -> x.between(wrong, 0, classes));
                thrown("between to " + wrong, RefusedTest::small, INDEX, x -> x.between(0, wrong, classes));
                thrown("between " + wrong + " twice", RefusedTest::small, INDEX, x -> x.between(wrong, wrong, classes));
            }
        }
        thrown("between 8 of 8", () -> diagram(8, ""), INDEX, x -> x.between(0, 8, false));
    }

    /** "if one of the paths does not exist". */
    private void distance() {
        for (int wrong : new int[] {-1, 8, 9, LOW, HIGH}) {
            thrown("distance from " + wrong, RefusedTest::small, INDEX, x -> x.distance(wrong, 3));
            thrown("distance to " + wrong, RefusedTest::small, INDEX, x -> x.distance(3, wrong));
            thrown("distance of " + wrong + " twice", RefusedTest::small, INDEX, x -> x.distance(wrong, wrong));
        }
        thrown("distance of 300 of 300", RefusedTest::paths300, INDEX, x -> x.distance(299, 300));
    }

    /** Paths that do not exist, then a wrong what, then paths that are not equal, or no such step. */
    private void proof() {
        for (int wrong : new int[] {-1, 8, LOW, HIGH}) {
            for (int what : new int[] {0, 1, 2, -1}) {
                thrown("proof from " + wrong, RefusedTest::small, INDEX, x -> x.proof(wrong, 3, 0, what));
                thrown("proof to " + wrong, RefusedTest::small, INDEX, x -> x.proof(3, wrong, 7, what));
            }
        }
        for (int what : new int[] {-1, 2, 3, LOW, HIGH}) {
            thrown("proof: " + what, RefusedTest::small, ARGUMENT, x -> x.proof(3, 4, 0, what));
            thrown("proof without such a step: " + what, RefusedTest::small, ARGUMENT, x -> x.proof(3, 4, 1, what));
            thrown("proof of what is not equal: " + what, RefusedTest::small, ARGUMENT, x -> x.proof(3, 6, 0, what));
        }
        for (int what : new int[] {0, 1}) {
            for (int index : new int[] {1, 2, -1, LOW, HIGH}) {
                thrown("proof: step " + index, RefusedTest::small, STATE, x -> x.proof(3, 4, index, what));
            }
            for (int index : new int[] {0, -1, 1}) {
                thrown("proof of a path from itself", RefusedTest::small, STATE, x -> x.proof(3, 3, index, what));
                thrown("proof of an empty path from itself", RefusedTest::small, STATE, x -> x.proof(0, 0, index, what));
                thrown("proof of what is not parallel", RefusedTest::small, STATE, x -> x.proof(3, 6, index, what));
            }
            thrown("proof of parallel paths", () -> diagram(2, "01;01"), STATE, x -> x.proof(2, 3, 0, what));
            thrown("proof of parallel paths, step -1", () -> diagram(2, "01;01"), STATE, x -> x.proof(2, 3, -1, what));
        }
    }

    /** "if the cell does not exist", "if what is not 0 to 4". */
    private void cell() {
        for (int wrong : new int[] {-1, 2, 3, LOW, HIGH}) {
            for (int what : new int[] {0, 1, 2, 3, 4, 5, -1}) {
                thrown("cell(" + wrong + ", " + what + ")", RefusedTest::small, INDEX, x -> x.cell(wrong, what));
            }
        }
        for (int what : new int[] {-1, 5, 6, LOW, HIGH}) {
            thrown("cell(1, " + what + ")", RefusedTest::small, ARGUMENT, x -> x.cell(1, what));
        }
        thrown("cell(0, 0) of none", RefusedTest::empty, INDEX, x -> x.cell(0, 0));
        thrown("cell(10, 0) of 10", RefusedTest::cells10, INDEX, x -> x.cell(10, 0));
    }

    /** "if what is not 0 to 7". */
    private void count() {
        for (int what : new int[] {-1, 8, 9, LOW, HIGH}) {
            thrown("count(" + what + ")", RefusedTest::small, ARGUMENT, x -> x.count(what));
        }
    }

    // ---- promises 20 to 27

    /** "if the object does not exist", "if size is out of range" (1 to 4). */
    private void setSize() {
        for (int wrong : new int[] {-1, 3, 4, 7, 8, LOW, HIGH}) {
            for (int size : new int[] {1, 4, 0, 5}) {
                thrown("setSize(" + wrong + ", " + size + ")", RefusedTest::small, INDEX, x -> x.setSize(wrong, size));
            }
        }
        for (int size : new int[] {0, 5, -1, 6, LOW, HIGH}) {
            thrown("setSize(0, " + size + ")", RefusedTest::small, ARGUMENT, x -> x.setSize(0, size));
            thrown("setSize(2, " + size + ")", RefusedTest::small, ARGUMENT, x -> x.setSize(2, size));
        }
        thrown("setSize(8, 2) of 8", () -> diagram(8, ""), INDEX, x -> x.setSize(8, 2));
    }

    /** "if the arrow does not exist", "if code is the code of no such function". */
    private void setFunction() {
        for (int wrong : new int[] {-1, 3, 13, 14, LOW, HIGH}) {
            for (int code : new int[] {0, -1, 256}) {
                thrown("setFunction(" + wrong + ", " + code + ")", RefusedTest::small, INDEX, x -> x.setFunction(wrong, code));
            }
        }
        // a leads from 3 elements to 2, c from 2 elements to 4
        for (int code : new int[] {-1, 2, 3, 8, 12, 32, 48, 64, 65, 256, LOW, HIGH, LOW + 1}) {
            thrown("setFunction(0, " + code + ")", RefusedTest::small, ARGUMENT, x -> x.setFunction(0, code));
        }
        for (int code : new int[] {-1, 16, 17, 64, 256, LOW, HIGH}) {
            thrown("setFunction(2, " + code + ")", RefusedTest::small, ARGUMENT, x -> x.setFunction(2, code));
        }
        thrown("setFunction(14, 0) of 14", RefusedTest::arrows14, INDEX, x -> x.setFunction(14, 0));
        thrown("setFunction(0, 0) of none", RefusedTest::empty, INDEX, x -> x.setFunction(0, 0));
    }

    /** "if the path does not exist", "if there is no such element". */
    private void apply() {
        for (int wrong : new int[] {-1, 8, LOW, HIGH}) {
            for (int element : new int[] {0, 3, 4, -1}) {
                thrown("apply(" + wrong + ", " + element + ")", RefusedTest::small, INDEX, x -> x.apply(wrong, element));
            }
        }
        // the objects have 3, 2 and 4 elements
        int[][] noElement = {{0, 3}, {1, 2}, {2, 4}, {3, 3}, {5, 2}, {6, 3}, {7, 4}, {7, -1}, {0, -1}};
        for (int[] a : noElement) {
            thrown("apply(" + a[0] + ", " + a[1] + ")", RefusedTest::small, ARGUMENT, x -> x.apply(a[0], a[1]));
        }
        for (int element : FAR) {
            thrown("apply(7, " + element + ")", RefusedTest::small, ARGUMENT, x -> x.apply(7, element));
        }
    }

    /** "if the path does not exist". */
    private void imageShare() {
        for (int wrong : new int[] {-1, 8, 9, LOW, HIGH}) {
            thrown("imageShare(" + wrong + ")", RefusedTest::small, INDEX, x -> x.imageShare(wrong));
        }
    }

    /** "if one of the paths does not exist", "if they are not parallel", "if there are more than 6 arrows". */
    private void separate() {
        Start seven = () -> diagram(3, "01;01;12;12;02;02;02");
        for (int wrong : new int[] {-1, LOW, HIGH}) {
            thrown("separate(" + wrong + ", 3)", RefusedTest::small, INDEX, x -> x.separate(wrong, 3));
            thrown("separate(3, " + wrong + ")", RefusedTest::small, INDEX, x -> x.separate(3, wrong));
            thrown("separate(3, " + wrong + ") of 7 arrows", seven, INDEX, x -> x.separate(3, wrong));
        }
        thrown("separate(8, 3)", RefusedTest::small, INDEX, x -> x.separate(8, 3));
        thrown("separate(3, 8)", RefusedTest::small, INDEX, x -> x.separate(3, 8));
        thrown("separate(14, 3) of 7 arrows", seven, INDEX, x -> x.separate(14, 3));
        int[][] notParallel = {{0, 1}, {3, 6}, {5, 6}, {3, 5}, {0, 3}, {3, 0}};
        for (int[] a : notParallel) {
            thrown("separate(" + a[0] + ", " + a[1] + ")", RefusedTest::small, ARGUMENT, x -> x.separate(a[0], a[1]));
        }
        thrown("separate of 7 arrows, not parallel", seven, ARGUMENT, x -> x.separate(0, 1));
        thrown("separate of 7 arrows", seven, STATE, x -> x.separate(3, 4));
        thrown("separate of 7 arrows, one path", seven, STATE, x -> x.separate(3, 3));
        thrown("separate of 7 arrows, an empty path", seven, STATE, x -> x.separate(0, 0));
        thrown("separate of 14 arrows", RefusedTest::arrows14, STATE, x -> x.separate(2, 15));
    }

    /** "if one of the arrows does not exist", "if both are the same, or they do not lead from the same object". */
    private void isProduct() {
        for (int wrong : new int[] {-1, 3, LOW, HIGH}) {
            thrown("isProduct(" + wrong + ", 0)", RefusedTest::small, INDEX, x -> x.isProduct(wrong, 0));
            thrown("isProduct(0, " + wrong + ")", RefusedTest::small, INDEX, x -> x.isProduct(0, wrong));
            thrown("isProduct of " + wrong + " twice", RefusedTest::small, INDEX, x -> x.isProduct(wrong, wrong));
        }
        int[][] wrong = {{0, 0}, {2, 2}, {0, 2}, {2, 1}};
        for (int[] a : wrong) {
            thrown("isProduct(" + a[0] + ", " + a[1] + ")", RefusedTest::small, ARGUMENT, x -> x.isProduct(a[0], a[1]));
        }
        thrown("isProduct of two to the same object", RefusedTest::square, ARGUMENT, x -> x.isProduct(1, 3));
    }

    /** "if one of the arrows does not exist", whatever the other ones are. */
    private void isPullback() {
        for (int wrong : new int[] {-1, 7, LOW, HIGH}) {
            thrown("isPullback: p " + wrong, RefusedTest::square, INDEX, x -> x.isPullback(wrong, 1, 2, 3));
            thrown("isPullback: f " + wrong, RefusedTest::square, INDEX, x -> x.isPullback(0, wrong, 2, 3));
            thrown("isPullback: q " + wrong, RefusedTest::square, INDEX, x -> x.isPullback(0, 1, wrong, 3));
            thrown("isPullback: g " + wrong, RefusedTest::square, INDEX, x -> x.isPullback(0, 1, 2, wrong));
            thrown("isPullback: no square, p " + wrong, RefusedTest::square, INDEX, x -> x.isPullback(wrong, 0, 0, 0));
            thrown("isPullback: no square, f " + wrong, RefusedTest::square, INDEX, x -> x.isPullback(0, wrong, 3, 0));
            thrown("isPullback: no square, q " + wrong, RefusedTest::square, INDEX, x -> x.isPullback(0, 0, wrong, 0));
            thrown("isPullback: no square, g " + wrong, RefusedTest::square, INDEX, x -> x.isPullback(0, 0, 0, wrong));
            thrown("isPullback: all " + wrong, RefusedTest::square, INDEX, x -> x.isPullback(wrong, wrong, wrong, wrong));
        }
    }

    /** "if they do not make such a square": each of its corners alone does not fit. */
    private void isPullbackOfNoSquare() {
        // a 01, b 13, c 02, d 23, e 12, f 34, g 24
        int[][] noSquares = {
            {0, 3, 2, 3}, // f leads from where q leads to
            {0, 1, 4, 3}, // q leads from where p leads to
            {0, 1, 2, 1}, // g leads from where p leads to
            {0, 1, 2, 6}, // g leads to another object than f
            {0, 4, 2, 3}, // f leads to where g leads from
            {1, 0, 3, 2}, // the square backwards
            {0, 2, 1, 3}, // f and q for one another
            {0, 0, 0, 0}, // one arrow
            {0, 5, 2, 6}, // f leads from another object, to where g leads to
            {1, 5, 2, 6}, // q leads from another object than p
            {2, 1, 0, 1}, // f leads from where q leads to, a lower object than the one where p leads to
            {4, 3, 0, 1}, // q leads from a lower object than p
        };
        for (int[] a : noSquares) {
            thrown("isPullback(" + a[0] + ", " + a[1] + ", " + a[2] + ", " + a[3] + ")", RefusedTest::square, ARGUMENT,
                    x -> x.isPullback(a[0], a[1], a[2], a[3]));
        }
    }

    /** "if one of the arrows does not exist", "if they do not lead like that". */
    private void isEqualizer() {
        // a 01, b and c 12, d 13, e 02, f 23
        Start start = () -> diagram(4, "01;12;12;13;02;23");
        for (int wrong : new int[] {-1, 6, LOW, HIGH}) {
            thrown("isEqualizer: e " + wrong, start, INDEX, x -> x.isEqualizer(wrong, 1, 2));
            thrown("isEqualizer: f " + wrong, start, INDEX, x -> x.isEqualizer(0, wrong, 2));
            thrown("isEqualizer: g " + wrong, start, INDEX, x -> x.isEqualizer(0, 1, wrong));
            thrown("isEqualizer: e " + wrong + ", not like that", start, INDEX, x -> x.isEqualizer(wrong, 1, 3));
            thrown("isEqualizer: f " + wrong + ", not like that", start, INDEX, x -> x.isEqualizer(1, wrong, 2));
            thrown("isEqualizer: g " + wrong + ", not like that", start, INDEX, x -> x.isEqualizer(1, 1, wrong));
        }
        int[][] wrong = {{0, 1, 3}, {0, 3, 1}, {0, 1, 4}, {0, 1, 5}, {1, 1, 2}, {5, 1, 2}, {0, 0, 0}, {0, 5, 5}, {0, 4, 4},
            {4, 1, 2}, {4, 4, 4}, {4, 3, 3}};
        for (int[] a : wrong) {
            thrown("isEqualizer(" + a[0] + ", " + a[1] + ", " + a[2] + ")", start, ARGUMENT,
                    x -> x.isEqualizer(a[0], a[1], a[2]));
        }
    }
}
