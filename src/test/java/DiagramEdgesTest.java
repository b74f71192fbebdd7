/**
 * The boundary sentences of the description on objects, arrows, paths and cells, and those of the
 * promises 1 to 6: the last values that are allowed, and what stands right behind them. (What is
 * refused is in RefusedTest.) Each test bears the sentence that it tries.
 */
public final class DiagramEdgesTest extends Cases {
    public static void main(String[] args) {
        DiagramEdgesTest test = new DiagramEdgesTest();
        test.newObject();
        test.newObjectsAreApart();
        test.twoToEightObjects();
        test.beginForgets();
        test.beginKeepsTheBuffer();
        test.greaterNumbers();
        test.fourteenArrows();
        test.codeZero();
        test.arrowsBetweenTheSameObjects();
        test.emptyPaths();
        test.threeHundredPaths();
        test.threeHundredPathsAtOnce();
        test.limitsOfALaterDiagram();
        test.dropArrowDownToNone();
        test.dropArrowWithCells();
        test.dropArrowWherever();
        test.tenCells();
        test.cellsOfAnyParallelPaths();
        test.cellsKeepTheirPaths();
        test.dropCells();
        test.cellsInThePlaceOfOthers();
        test.lastOfAllCalls();
        test.checks.finish();
    }

    private static int from(ArrowDiagrams x, int arrow) {
        return x.path(x.count(0) + arrow, 0);
    }

    private static int to(ArrowDiagrams x, int arrow) {
        return x.path(x.count(0) + arrow, 1);
    }

    // ---- promise 1

    /** "Creates a diagram with 2 objects without arrows and cells, and an empty buffer." */
    private void newObject() {
        ArrowDiagrams x = new ArrowDiagrams();
        int[] counts = {2, 0, 0, 2, 2, 0, 0, 0};
        for (int what = 0; what < counts.length; what++) {
            due("new: count " + what, x.count(what), counts[what]);
        }
        due("new: paths from 0 to 1", x.between(0, 1, false), 0);
        due("new: first error", x.firstError(), 0);
        due("new: find", x.find(), ArrowDiagrams.NONE);
        checks.due("new: commuting", x.commuting(), 1.0);
        refused("new: no arrow 0", x, INDEX, () -> x.setFunction(0, 0));
        refused("new: no cell 0", x, INDEX, () -> x.cell(0, 0));
        refused("new: no object 2", x, INDEX, () -> x.setSize(2, 2));
        refused("new: no path 2", x, INDEX, () -> x.path(2, 0));
        refused("new: nothing to load", x, ARGUMENT, x::load);
        due("new: size of 0", x.setSize(0, 1), 2);
        due("new: size of 1", x.setSize(1, 1), 2);
        due("new: length of the buffer", x.clearInput(), 0);
    }

    /** What one object is told does not reach another one, made before or behind it. */
    private void newObjectsAreApart() {
        ArrowDiagrams before = new ArrowDiagrams();
        ArrowDiagrams x = diagram(8, "01;01;12");
        addCell(x, "a", "b");
        x.setSize(1, 4);
        x.setFunction(0, 15);
        write(x, "ac=bc");
        x.separate(number(x, "ac"), number(x, "ac"));
        ArrowDiagrams behind = new ArrowDiagrams();
        long fresh = fold(2, 0, 0, 2, 2, 0, 0, 0, 2, 2, 0, 0, 0, 2, 1, 1, 1, 2, 0x3ff0000000000000L, 0);
        due("apart: made before", before.digest(), fresh);
        due("apart: made behind", behind.digest(), fresh);
    }

    // ---- promise 2

    /** "A diagram has 2 to 8 objects, numbered from 0." "Returns the previous number of objects." */
    private void twoToEightObjects() {
        int previous = 2;
        ArrowDiagrams x = new ArrowDiagrams();
        for (int objects : new int[] {2, 8, 7, 3, 4, 6, 5, 8, 2}) {
            due("begin(" + objects + ")", x.begin(objects), previous);
            due("begin(" + objects + "): objects", x.count(0), objects);
            due("begin(" + objects + "): empty paths", x.count(3), objects);
            due("begin(" + objects + "): the last object", x.between(objects - 1, objects - 1, false), 1);
            refused("begin(" + objects + "): the next object", x, INDEX, () -> x.between(objects, 0, false));
            due("begin(" + objects + "): arrow to the last object", x.addArrow(0, objects - 1), 0);
            refused("begin(" + objects + "): arrow to the next", x, INDEX, () -> x.addArrow(0, objects));
            previous = objects;
        }
        refused("begin(1)", x, ARGUMENT, () -> x.begin(1));
        refused("begin(9)", x, ARGUMENT, () -> x.begin(9));
        due("begin behind refused ones", x.begin(8), 2);
    }

    /** "Begins a diagram without arrows and cells; all sizes are 2." */
    private void beginForgets() {
        ArrowDiagrams x = diagram(8, "01;01;67");
        addCell(x, "a", "b");
        for (int object = 0; object < 8; object++) {
            x.setSize(object, 1 + object % 4);
        }
        x.setFunction(1, 1);
        due("begin: previous", x.begin(2), 8);
        due("begin: arrows", x.count(1), 0);
        due("begin: cells", x.count(2), 0);
        due("begin: classes", x.count(4), 2);
        due("begin: nothing commutes", x.count(5), 0);
        due("begin again", x.begin(8), 2);
        for (int object = 0; object < 8; object++) {
            due("begin: size of " + object, x.setSize(object, 2), 2);
        }
        x.addArrow(0, 1);
        due("begin: code of an arrow", x.setFunction(0, 0), 0);
        due("begin: second arrow", x.addArrow(0, 1), 1);
        due("begin: code of the second arrow", x.setFunction(1, 0), 0);
        due("begin: its paths are not equal", x.distance(8, 9), -1);
        ArrowDiagrams y = diagram(8, "");
        y.setSize(7, 4);
        y.begin(8);
        due("begin with as many objects: size", y.setSize(7, 2), 2);
    }

    /** "The buffer stays." */
    private void beginKeepsTheBuffer() {
        ArrowDiagrams x = new ArrowDiagrams();
        x.begin(3);
        due("begin: an empty buffer stays", x.clearInput(), 0);
        write(x, "12;".repeat(20));
        x.begin(8);
        due("begin: a full buffer stays", x.firstError(), 3 * 14);
        x.begin(2);
        due("begin: it is read anew", x.firstError(), 0);
        due("begin: all of it", x.clearInput(), 60);
    }

    // ---- promise 3

    /** "An arrow leads from an object to an object with a greater number." */
    private void greaterNumbers() {
        for (int from = 0; from < 8; from++) {
            for (int to = 0; to < 8; to++) {
                ArrowDiagrams x = diagram(8, "");
                int begin = from;
                int end = to;
                if (to > from) {
                    due("arrow " + from + " " + to, x.addArrow(from, to), 0);
                    due("arrow " + from + " " + to + ": from", from(x, 0), from);
                    due("arrow " + from + " " + to + ": to", to(x, 0), to);
                    due("arrow " + from + " " + to + ": paths", x.between(from, to, false), 1);
                } else {
                    refused("arrow " + from + " " + to, x, ARGUMENT, () -> x.addArrow(begin, end));
                }
            }
        }
    }

    /** "at most 14 arrows, numbered from 0 in the order in which they were added, and written as the letters 'a' to 'n'" */
    private void fourteenArrows() {
        ArrowDiagrams x = diagram(8, "");
        for (int i = 0; i < 14; i++) {
            due("arrow number " + i, x.addArrow(6 - i / 2, i % 2 == 0 ? 7 : 7 - i / 2), i);
            due("arrows", x.count(1), i + 1);
        }
        for (int i = 0; i < 14; i++) {
            due("arrow " + i + " begins", from(x, i), 6 - i / 2);
            due("arrow " + i + " ends", to(x, i), i % 2 == 0 ? 7 : 7 - i / 2);
            due("arrow " + i + " is a letter", number(x, "" + (char) ('a' + i)), 8 + i);
        }
        due("no letter behind 'n'", number(x, "o"), -1);
        due("no letter before 'a'", number(x, "`"), -1);
        ArrowDiagrams y = diagram(2, ARROWS_14);
        refused("arrow number 14", y, STATE, () -> y.addArrow(0, 1));
        y.dropArrow();
        due("one less: 'n' is no letter", number(y, "n"), -1);
        due("one less: one more", y.addArrow(0, 1), 13);
        refused("arrow number 14 again", y, STATE, () -> y.addArrow(0, 1));
    }

    /** "Adds an arrow, with a function with the code 0." */
    private void codeZero() {
        ArrowDiagrams x = diagram(3, "01;12");
        due("code of a new arrow", x.setFunction(1, 5), 0);
        x.dropArrow();
        x.addArrow(1, 2);
        due("code of an arrow in the place of another one", x.setFunction(1, 5), 0);
        x.dropArrow();
        write(x, "12");
        x.load();
        due("code of a loaded arrow in its place", x.setFunction(1, 5), 0);
        x.addArrow(1, 2);
        due("code of the arrow before it stays", x.setFunction(1, 0), 5);
        due("value of code 0", x.apply(number(x, "c"), 1), 0);
    }

    /** "several arrows may lead from the same object to the same one" */
    private void arrowsBetweenTheSameObjects() {
        ArrowDiagrams x = diagram(2, ARROWS_14);
        due("same objects: paths", x.between(0, 1, false), 14);
        due("same objects: classes", x.between(0, 1, true), 14);
        due("same objects: all paths", x.count(3), 16);
        due("same objects: not equal", x.distance(2, 15), -1);
    }

    /** "For each object there is also the empty path, without arrows, which leads from it to itself." */
    private void emptyPaths() {
        ArrowDiagrams x = diagram(8, "67;01");
        for (int object = 0; object < 8; object++) {
            due("empty path of " + object + ": from", x.path(object, 0), object);
            due("empty path of " + object + ": to", x.path(object, 1), object);
            due("empty path of " + object + ": length", x.path(object, 2), 0);
            due("empty path of " + object + ": alone", x.between(object, object, false), 1);
        }
        due("the first path with an arrow", x.path(8, 2), 1);
    }

    /** "A diagram has at most 300 paths." */
    private void threeHundredPaths() {
        ArrowDiagrams x = diagram(6, PATHS_300);
        due("300 paths", x.count(3), 300);
        due("300 paths: the last one", x.path(299, 2), 5);
        refused("300 paths: one more", x, STATE, () -> x.addArrow(0, 5));
        due("300 paths: the last arrow", x.dropArrow(), 0);
        due("300 paths: it comes back", x.addArrow(4, 5), 12);
        due("300 paths again", x.count(3), 300);
        refused("300 paths: one more again", x, STATE, () -> x.addArrow(0, 5));
        due("300 paths: a cell may come", x.addCell(299, 298), 0);
        due("300 paths: classes", x.count(4), 299);
    }

    /** The same, when one arrow makes many paths: those before it times those behind it. */
    private void threeHundredPathsAtOnce() {
        ArrowDiagrams x = diagram(6, PATHS_234);
        due("234 paths", x.count(3), 234);
        refused("234 paths: 67 more", x, STATE, () -> x.addArrow(4, 5));
        due("234 paths: 66 more", x.addArrow(3, 4), 12);
        due("234 paths: now 300", x.count(3), 300);
        ArrowDiagrams y = diagram(7, PATHS_278);
        due("278 paths", y.count(3), 278);
        refused("278 paths: 23 more", y, STATE, () -> y.addArrow(0, 2));
        refused("278 paths: 23 more at the end", y, STATE, () -> y.addArrow(3, 6));
        due("278 paths: 22 more by the last of 14 arrows", y.addArrow(2, 5), 13);
        due("278 paths: now 300", y.count(3), 300);
    }

    /** The same, in an object that had a greater diagram, full of paths, before. */
    private void limitsOfALaterDiagram() {
        ArrowDiagrams x = diagram(8, "12;23;23;24;34;34;45;45;56;56;57;67;67;67");
        due("the diagram before: paths", x.count(3), 1 + 1 + 2 + 5 + 13 + 27 + 55 + 193);
        x.begin(7);
        String arrows = "01;02;12;23;23;34;34;34;45;45;45;56;56";
        for (int i = 0; i < arrows.length(); i += 3) {
            due("the later diagram: arrow", x.addArrow(arrows.charAt(i) - '0', arrows.charAt(i + 1) - '0'), i / 3);
        }
        due("the later diagram: paths", x.count(3), 300);
        refused("the later diagram: path 301", x, STATE, () -> x.addArrow(0, 6));
        x.begin(2);
        for (int i = 0; i < 14; i++) {
            due("the last diagram: arrow", x.addArrow(0, 1), i);
        }
        x.begin(7);
        write(x, arrows);
        due("the later diagram, loaded", x.load(), 13);
        due("the later diagram, loaded: paths", x.count(3), 300);
    }

    // ---- promise 4

    /** "Throws IllegalStateException if there are no arrows" */
    private void dropArrowDownToNone() {
        ArrowDiagrams x = diagram(2, ARROWS_14);
        for (int left = 13; left >= 0; left--) {
            due("dropArrow: cells", x.dropArrow(), 0);
            due("dropArrow: arrows", x.count(1), left);
            due("dropArrow: paths", x.count(3), 2 + left);
        }
        refused("dropArrow: none is left", x, STATE, x::dropArrow);
        due("dropArrow: an arrow may come again", x.addArrow(0, 1), 0);
    }

    /** "and all cells in whose paths it occurs; the other cells keep their order. Returns how many cells are removed." */
    private void dropArrowWithCells() {
        ArrowDiagrams x = diagram(2, "01;01;01;01");
        int[][] cells = {{2, 5}, {2, 3}, {5, 5}, {3, 4}, {5, 2}, {4, 2}, {4, 4}, {3, 5}, {0, 0}, {3, 2}};
        for (int[] cell : cells) {
            x.addCell(cell[0], cell[1]);
        }
        due("dropArrow: first, second or both", x.dropArrow(), 4);
        int[][] left = {{2, 3}, {3, 4}, {4, 2}, {4, 4}, {0, 0}, {3, 2}};
        due("dropArrow: cells left", x.count(2), left.length);
        for (int cell = 0; cell < left.length; cell++) {
            due("dropArrow: first path of " + cell, x.cell(cell, 0), left[cell][0]);
            due("dropArrow: second path of " + cell, x.cell(cell, 1), left[cell][1]);
        }
        due("dropArrow: three cells", x.dropArrow(), 3);
        due("dropArrow: two cells", x.dropArrow(), 2);
        due("dropArrow: no arrow in the last one", x.dropArrow(), 0);
        due("dropArrow: one of empty paths", x.count(2), 1);
        ArrowDiagrams y = diagram(2, "01;01");
        for (int i = 0; i < 10; i++) {
            y.addCell(2 + i % 2, 3);
        }
        due("dropArrow: all ten cells", y.dropArrow(), 10);
        due("dropArrow: no cells", y.count(2), 0);
        y.addArrow(0, 1);
        due("dropArrow: the cells do not come back", y.distance(2, 3), -1);
    }

    /** "in whose paths it occurs": at the beginning, inside and at the end of a path. */
    private void dropArrowWherever() {
        String[] arrows = {"12;23;12;01", "01;23;23;12", "01;12;12;23"};
        String[] first = {"dab", "adb", "abd"};
        String[] second = {"dcb", "adc", "acd"};
        for (int i = 0; i < arrows.length; i++) {
            ArrowDiagrams x = diagram(4, arrows[i]);
            addCell(x, first[i], second[i]);
            due("dropArrow in " + first[i], x.dropArrow(), 1);
            due("dropArrow in " + first[i] + ": cells", x.count(2), 0);
        }
        ArrowDiagrams x = diagram(8, "01;12;23;34;45;56;67;01");
        addCell(x, "abcdefg", "hbcdefg");
        addCell(x, "bcdefg", "bcdefg");
        due("dropArrow at the beginning of seven", x.dropArrow(), 1);
        due("dropArrow: seven less one stay", x.cell(0, 0), number(x, "bcdefg"));
        due("dropArrow at the end of seven", x.dropArrow(), 1);
    }

    // ---- promises 5 and 6

    /** "There are at most 10 cells, numbered from 0 in the order in which they were added." */
    private void tenCells() {
        ArrowDiagrams x = diagram(2, "01;01;01");
        for (int i = 0; i < 10; i++) {
            due("cell number " + i, x.addCell(2 + i % 3, 2 + i % 2), i);
            due("cells", x.count(2), i + 1);
        }
        refused("cell number 10", x, STATE, () -> x.addCell(2, 3));
        for (int i = 0; i < 10; i++) {
            due("first path of " + i, x.cell(i, 0), 2 + i % 3);
            due("second path of " + i, x.cell(i, 1), 2 + i % 2);
        }
        refused("no cell 10", x, INDEX, () -> x.cell(10, 0));
        x.dropCell(3);
        due("one less: one more", x.addCell(4, 4), 9);
        refused("cell number 10 again", x, STATE, () -> x.addCell(2, 3));
    }

    /** "A cell states that two parallel paths .. are equal": from the same object, to the same object. */
    private void cellsOfAnyParallelPaths() {
        int paths = diagram(4, "01;12;02;23").count(3);
        int[] starts = {0, 1, 2, 3, 0, 1, 0, 2, 0, 1, 0, 0};
        int[] ends = {0, 1, 2, 3, 1, 2, 2, 3, 2, 3, 3, 3};
        due("paths", paths, starts.length);
        for (int first = 0; first < paths; first++) {
            for (int second = 0; second < paths; second++) {
                ArrowDiagrams x = diagram(4, "01;12;02;23");
                int one = first;
                int other = second;
                if (starts[first] == starts[second] && ends[first] == ends[second]) {
                    due("addCell(" + first + ", " + second + ")", x.addCell(first, second), 0);
                    due("addCell(" + first + ", " + second + "): first", x.cell(0, 0), first);
                    due("addCell(" + first + ", " + second + "): second", x.cell(0, 1), second);
                } else {
                    refused("addCell(" + first + ", " + second + ")", x, ARGUMENT, () -> x.addCell(one, other));
                }
            }
        }
    }

    /** "So the numbers of paths change when arrows come or go": a cell has the same paths as before. */
    private void cellsKeepTheirPaths() {
        ArrowDiagrams x = diagram(3, "01;12;02");
        addCell(x, "ab", "c");
        for (int i = 0; i < 4; i++) {
            x.addArrow(0, 2);
            due("the first path of the cell", x.cell(0, 0), number(x, "ab"));
            due("the second path of the cell", x.cell(0, 1), number(x, "c"));
        }
        for (int i = 0; i < 4; i++) {
            x.dropArrow();
            due("the first path of the cell again", x.cell(0, 0), number(x, "ab"));
        }
    }

    /** "Removes a cell; the numbers of the later ones decrease by 1. Returns how many are left." */
    private void dropCells() {
        for (int dropped = 0; dropped < 10; dropped++) {
            ArrowDiagrams x = diagram(2, "01;01;01;01;01;01;01;01;01;01");
            for (int i = 0; i < 10; i++) {
                x.addCell(2 + i, 11 - i);
            }
            due("dropCell(" + dropped + ")", x.dropCell(dropped), 9);
            for (int i = 0; i < 9; i++) {
                int was = i < dropped ? i : i + 1;
                due("dropCell(" + dropped + "): first path of " + i, x.cell(i, 0), 2 + was);
                due("dropCell(" + dropped + "): second path of " + i, x.cell(i, 1), 11 - was);
            }
            refused("dropCell(" + dropped + "): no cell 9", x, INDEX, () -> x.dropCell(9));
            for (int left = 8; left >= 0; left--) {
                due("dropCell: left", x.dropCell(left % 2 == 0 ? 0 : left), left);
            }
            refused("dropCell: none is left", x, INDEX, () -> x.dropCell(0));
        }
    }

    /** A cell that is added behind one that was removed has its own paths, shorter or longer ones. */
    private void cellsInThePlaceOfOthers() {
        String[] cells = {"a=b", "ace=bdf", "ac=bd", "f=f", "g=ace", "ace=g", "c=d"};
        for (String before : cells) {
            for (String behind : cells) {
                for (boolean load : new boolean[] {false, true}) {
                    ArrowDiagrams x = diagram(4, "01;01;12;12;23;23;03");
                    write(x, before + ";" + before);
                    x.load();
                    x.dropCell(1);
                    x.dropCell(0);
                    int first = number(x, behind.substring(0, behind.indexOf('=')));
                    int second = number(x, behind.substring(behind.indexOf('=') + 1));
                    write(x, behind + ";" + behind);
                    if (load) {
                        x.load();
                    } else {
                        x.addCell(first, second);
                        x.addCell(first, second);
                    }
                    for (int cell = 0; cell < 2; cell++) {
                        due(behind + " behind " + before + ": first", x.cell(cell, 0), first);
                        due(behind + " behind " + before + ": second", x.cell(cell, 1), second);
                    }
                }
            }
        }
    }

    // ---- all calls

    /** "An object is used for at most 512 calls after it has been made": the last one is as good as the first. */
    private void lastOfAllCalls() {
        ArrowDiagrams x = new ArrowDiagrams();
        int calls = 0;
        x.begin(6);
        calls++;
        for (int i = 0; i < PATHS_300.length(); i += 3) {
            x.addArrow(PATHS_300.charAt(i) - '0', PATHS_300.charAt(i + 1) - '0');
            calls++;
        }
        for (int cell = 0; cell < 10; cell++) {
            x.addCell(299, 298 - cell);
            calls++;
        }
        long digest = x.digest();
        calls++;
        for (; calls < CALLS - 1; calls++) {
            due("distance in call " + calls, x.distance(290 + calls % 10, 299), calls % 10 == 9 ? 0 : 1);
        }
        due("the digest as the last call", x.digest(), digest);
    }
}
