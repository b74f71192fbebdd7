import java.util.ArrayList;
import java.util.List;

/**
 * The boundary sentences of the description on the numbers of paths, steps, proofs and the core, and
 * those of the promises 12 to 19. (What is refused is in RefusedTest.) Each test bears the sentence
 * that it tries.
 */
public final class PathEdgesTest extends Cases {
    /** The arrows a to k, each equal to the next one by one of ten cells. */
    private static final String CHAIN = "a=b;b=c;c=d;d=e;e=f;f=g;g=h;h=i;i=j;j=k";

    public static void main(String[] args) {
        PathEdgesTest test = new PathEdgesTest();
        test.numbersOfPaths();
        test.propertiesOfTheFirstAndTheLastPath();
        test.nameOfTheClass();
        test.sizeOfTheClass();
        test.differentElements();
        test.noElementTwice();
        test.arrowOf();
        test.between();
        test.betweenTheSameObject();
        test.distanceOfAPathToItself();
        test.distanceOfNothingEqual();
        test.stepsAtEachPlace();
        test.stepsBothWays();
        test.onlyWholePathsOfCells();
        test.longProof();
        test.lowestPathOfAProof();
        test.nearerPathOfAProof();
        test.proofWithoutACell();
        test.lowestCellOfAStep();
        test.proofsThereAndBack();
        test.cellPaths();
        test.redundant();
        test.redundantByParts();
        test.core();
        test.coreFromTheGreatestDown();
        test.holds();
        test.countsOfNothing();
        test.countsOfTheMost();
        test.pairsThatCommute();
        test.commuting();
        test.checks.finish();
    }

    /** A diagram and cells, written as in a text. */
    private static ArrowDiagrams cells(ArrowDiagrams x, String text) {
        write(x, text);
        x.load();
        return x;
    }

    private static ArrowDiagrams chain() {
        return cells(diagram(2, ARROWS_14), CHAIN);
    }

    // ---- the numbers of paths

    /** All paths with arrows, the shorter ones first, then in the order of the letters. */
    private static List<String> pathsInOrder(String arrows) {
        List<String> found = new ArrayList<>();
        int[] ends = new int[300];
        for (int i = 0; i < arrows.length(); i += 3) {
            found.add("" + (char) ('a' + i / 3));
            ends[i / 3] = arrows.charAt(i + 1);
        }
        for (int path = 0; path < found.size(); path++) {
            for (int i = 0; i < arrows.length(); i += 3) {
                if (arrows.charAt(i) == ends[path]) {
                    ends[found.size()] = arrows.charAt(i + 1);
                    found.add(found.get(path) + (char) ('a' + i / 3));
                }
            }
        }
        return found;
    }

    /** "the shorter ones first; paths of the same length are ordered by the number of the first arrow, then by that of the second one" */
    private void numbersOfPaths() {
        String[] diagrams = {"01", ARROWS_14, PATHS_300, PATHS_234, PATHS_278, "67;56;45;34;23;12;01", "01;12;23;34;45;56;67",
            "57;05;35;03;13;01;02;12;23", "23;12;01;12;23;01;02;13"};
        for (String arrows : diagrams) {
            List<String> paths = pathsInOrder(arrows);
            int objects = 1 + arrows.chars().filter(c -> c != ';').max().orElse('1') - '0';
            due("paths of " + arrows, diagram(objects, arrows).count(3), objects + paths.size());
            for (int i = 0; i < paths.size(); i++) {
                ArrowDiagrams x = diagram(objects, arrows);
                String letters = paths.get(i);
                int path = objects + i;
                due("number of " + letters + " of " + arrows, number(x, letters), path);
                due("length of " + letters, x.path(path, 2), letters.length());
                due("start of " + letters, x.path(path, 0), arrows.charAt(3 * (letters.charAt(0) - 'a')) - '0');
                int last = letters.charAt(letters.length() - 1) - 'a';
                due("end of " + letters, x.path(path, 1), arrows.charAt(3 * last + 1) - '0');
                for (int index = 0; index < letters.length(); index++) {
                    due("arrow " + index + " of " + letters, x.arrowOf(path, index), letters.charAt(index) - 'a');
                }
            }
        }
    }

    // ---- promise 12

    /** "what: 0 .. to .. 6", of the lowest path and of the greatest one. */
    private void propertiesOfTheFirstAndTheLastPath() {
        ArrowDiagrams x = diagram(6, PATHS_300);
        int[] first = {0, 0, 0, 0, 1, 2, 1};
        int[] last = {0, 5, 5, 299, 1, 1, 0};
        for (int what = 0; what <= 6; what++) {
            due("path(0, " + what + ")", x.path(0, what), first[what]);
            due("path(299, " + what + ")", x.path(299, what), last[what]);
        }
        refused("path(300, 0)", x, INDEX, () -> x.path(300, 0));
        refused("path(0, 7)", x, ARGUMENT, () -> x.path(0, 7));
        refused("path(0, -1)", x, ARGUMENT, () -> x.path(0, -1));
    }

    /** "the name of the class is its lowest path" */
    private void nameOfTheClass() {
        ArrowDiagrams x = cells(diagram(2, "01;01;01;01"), "d=c");
        int[] names = {0, 1, 2, 3, 4, 4};
        for (int path = 0; path < names.length; path++) {
            due("class of " + path, x.path(path, 3), names[path]);
        }
        addCell(x, "d", "a");
        due("class of c, by a", x.path(4, 3), 2);
        due("class of d, by a", x.path(5, 3), 2);
        due("class of b alone", x.path(3, 3), 3);
        x.dropCell(0);
        due("class of c without its cell", x.path(4, 3), 4);
    }

    /** "4 for the number of paths of its class" */
    private void sizeOfTheClass() {
        ArrowDiagrams x = chain();
        for (int path = 0; path < 16; path++) {
            boolean inChain = path >= 2 && path < 13;
            due("class size of " + path, x.path(path, 4), inChain ? 11 : 1);
            due("class name of " + path, x.path(path, 3), inChain ? 2 : path);
        }
        x.dropCell(0);
        due("class size of a alone", x.path(2, 4), 1);
        due("class size of b", x.path(3, 4), 10);
        due("class name of k", x.path(12, 3), 3);
    }

    /** "5 for the number of different elements that its function gives": 1 to 4. */
    private void differentElements() {
        ArrowDiagrams x = diagram(3, "01;12");
        for (int object = 0; object < 3; object++) {
            x.setSize(object, 4);
        }
        int[] codes = {0, 1, 33, 27, 228, 255, 85, 84, 21, 16, 64};
        int[] elements = {1, 2, 3, 4, 4, 1, 1, 2, 2, 2, 2};
        x.setFunction(1, 228);
        for (int i = 0; i < codes.length; i++) {
            x.setFunction(0, codes[i]);
            due("elements of code " + codes[i], x.path(3, 5), elements[i]);
            due("elements of code " + codes[i] + ", behind it all", x.path(5, 5), elements[i]);
        }
        x.setFunction(0, 27);
        x.setFunction(1, 33);
        due("elements by way of another object", x.path(5, 5), 3);
        for (int size = 1; size <= 4; size++) {
            x.setSize(0, size);
            due("elements of an empty path of size " + size, x.path(0, 5), size);
            due("none twice by an empty path of size " + size, x.path(0, 6), 1);
        }
    }

    /** "6 for 1 if its function gives no element twice, else 0" */
    private void noElementTwice() {
        for (int size = 1; size <= 4; size++) {
            ArrowDiagrams x = diagram(2, "01");
            x.setSize(0, size);
            x.setSize(1, 4);
            due("code 0 of size " + size, x.path(2, 6), size == 1 ? 1 : 0);
            x.setFunction(0, 228 % (1 << 2 * size));
            due("each to itself, size " + size, x.path(2, 6), 1);
            if (size > 1) {
                // the last element goes where the one before it goes
                int shift = 2 * (size - 1);
                x.setFunction(0, 228 % (1 << shift) + (size - 2 << shift));
                due("the last one twice, size " + size, x.path(2, 6), 0);
            }
        }
        ArrowDiagrams x = diagram(2, "01");
        x.setSize(1, 1);
        due("two elements to one", x.path(2, 6), 0);
        due("the empty path of one", x.path(1, 6), 1);
    }

    // ---- promises 13 and 14

    /** "index: its index, from 0" */
    private void arrowOf() {
        ArrowDiagrams x = diagram(8, "67;56;45;34;23;12;01");
        int last = x.count(3) - 1;
        for (int index = 0; index < 7; index++) {
            due("arrowOf " + index, x.arrowOf(last, index), 6 - index);
        }
        refused("arrowOf 7", x, INDEX, () -> x.arrowOf(last, 7));
        refused("arrowOf -1", x, INDEX, () -> x.arrowOf(last, -1));
        due("arrowOf a single arrow", x.arrowOf(8, 0), 0);
        refused("arrowOf a single arrow 1", x, INDEX, () -> x.arrowOf(8, 1));
        refused("arrowOf the last empty path", x, INDEX, () -> x.arrowOf(7, 0));
        refused("arrowOf behind the last path", x, INDEX, () -> x.arrowOf(last + 1, 0));
    }

    /** "true for the number of classes, false for the number of paths" */
    private void between() {
        ArrowDiagrams x = diagram(6, PATHS_300);
        due("between 0 and 5", x.between(0, 5, false), 72);
        due("between 0 and 5: classes", x.between(0, 5, true), 72);
        due("between 5 and 0", x.between(5, 0, false), 0);
        due("between 5 and 0: classes", x.between(5, 0, true), 0);
        cells(x, "b=c;c=d;e=f;f=g;h=i;i=j;j=k;l=m");
        due("between 0 and 5: paths that are equal", x.between(0, 5, false), 72);
        due("between 0 and 5: one class", x.between(0, 5, true), 1);
        x.dropCell(7);
        due("between 0 and 5: two classes", x.between(0, 5, true), 2);
        due("between 4 and 5: two classes", x.between(4, 5, true), 2);
        due("between 0 and 4: one class", x.between(0, 4, true), 1);
        due("between 0 and 4: paths", x.between(0, 4, false), 36);
        ArrowDiagrams y = diagram(8, "01");
        due("between objects without a path", y.between(6, 7, false), 0);
        due("between objects without a path: classes", y.between(6, 7, true), 0);
    }

    /** "to: the other object (it may be the same)" */
    private void betweenTheSameObject() {
        ArrowDiagrams x = cells(diagram(8, "01;01;12;67"), "a=b");
        for (int object = 0; object < 8; object++) {
            due("between " + object + " and itself", x.between(object, object, false), 1);
            due("between " + object + " and itself: classes", x.between(object, object, true), 1);
        }
        for (int change = 0; change < 3; change++) {
            x.addArrow(5, 6);
            due("between 0 and itself, after a change", x.between(0, 0, true), 1);
            due("between 5 and itself, after a change", x.between(5, 5, true), 1);
            due("between 5 and 6, after a change", x.between(5, 6, true), change + 1);
        }
        refused("between 8 and itself", x, INDEX, () -> x.between(8, 8, true));
        refused("between -1 and itself", x, INDEX, () -> x.between(-1, -1, false));
    }

    // ---- promise 15

    /** "each path is equal to itself" */
    private void distanceOfAPathToItself() {
        ArrowDiagrams x = cells(diagram(3, "01;01;12"), "a=b;c=c");
        x.addCell(0, 0);
        for (int path = 0; path < x.count(3); path++) {
            due("distance of " + path + " to itself", x.distance(path, path), 0);
        }
    }

    /** "Returns the distance; NONE if they are not equal." */
    private void distanceOfNothingEqual() {
        ArrowDiagrams x = cells(diagram(3, "01;01;01;12"), "a=b");
        int paths = x.count(3);
        for (int first = 0; first < paths; first++) {
            for (int second = 0; second < paths; second++) {
                // 3 is a, 4 is b, 7 is ad, 8 is bd
                boolean step = first != second && (first == 3 || first == 4) && (second == 3 || second == 4)
                        || first != second && (first == 7 || first == 8) && (second == 7 || second == 8);
                int want = first == second ? 0 : step ? 1 : ArrowDiagrams.NONE;
                due("distance of " + first + " and " + second, x.distance(first, second), want);
            }
        }
    }

    /** "a part of the path, consecutive arrows that are one of both paths of a cell, is replaced by the other path" */
    private void stepsAtEachPlace() {
        // a 01, b 12, c 23, and beside them d 01, e 12, f 23, g 02, h 13, i 03
        Start start = () -> diagram(4, "01;12;23;01;12;23;02;13;03");
        String[][] steps = {
            {"a=d", "abc", "dbc"}, {"b=e", "abc", "aec"}, {"c=f", "abc", "abf"},
            {"ab=g", "abc", "gc"}, {"g=ab", "abf", "gf"}, {"bc=h", "abc", "ah"}, {"h=bc", "dbc", "dh"},
            {"abc=i", "abc", "i"}, {"i=abc", "abc", "i"}, {"ab=de", "abf", "def"}, {"bc=ef", "dbc", "def"},
            {"abc=def", "def", "abc"}, {"a=d", "a", "d"}, {"ab=g", "ab", "g"}, {"bc=h", "h", "bc"},
        };
        for (String[] step : steps) {
            ArrowDiagrams x = cells(start.make(), step[0]);
            int one = number(x, step[1]);
            int other = number(x, step[2]);
            due("by " + step[0] + " from " + step[1], x.distance(one, other), 1);
            due("by " + step[0] + " to " + step[1], x.distance(other, one), 1);
            due("by " + step[0] + ": the step", x.proof(one, other, 0, 0), other);
            due("by " + step[0] + ": the step back", x.proof(other, one, 0, 0), one);
            due("by " + step[0] + ": the cell", x.proof(one, other, 0, 1), 0);
        }
    }

    /** "one of both paths of a cell": a step goes from the first path to the second one, and back. */
    private void stepsBothWays() {
        ArrowDiagrams x = cells(diagram(3, "01;12;02;02"), "ab=c;d=c");
        int ab = number(x, "ab");
        due("both ways: c", x.distance(ab, number(x, "c")), 1);
        due("both ways: d", x.distance(ab, number(x, "d")), 2);
        due("both ways: back", x.distance(number(x, "d"), ab), 2);
        due("both ways: the class", x.path(ab, 3), number(x, "c"));
    }

    /** A path that has only a piece of a cell's path, or its arrows elsewhere, takes no step. */
    private void onlyWholePathsOfCells() {
        ArrowDiagrams x = cells(diagram(5, "01;12;23;34;12;23"), "abc=aec;bcd=bfd");
        due("bc is a piece of abc", x.distance(number(x, "bc"), number(x, "ec")), -1);
        due("ab is a piece of abc", x.distance(number(x, "ab"), number(x, "ae")), -1);
        due("abf is none of them", x.path(number(x, "abf"), 4), 1);
        due("abc and aec", x.distance(number(x, "abc"), number(x, "aec")), 1);
        due("abcd and aecd", x.distance(number(x, "abcd"), number(x, "aecd")), 1);
        due("abcd and abfd", x.distance(number(x, "abcd"), number(x, "abfd")), 1);
        due("aecd and abfd", x.distance(number(x, "aecd"), number(x, "abfd")), 2);
        due("aefd stays alone", x.path(number(x, "aefd"), 4), 1);
    }

    // ---- promise 16

    /** "index: the index of the step, from 0": the last one is the distance minus 1. */
    private void longProof() {
        ArrowDiagrams x = chain();
        due("the longest distance", x.distance(2, 12), 10);
        for (int index = 0; index < 10; index++) {
            due("proof, path " + index, x.proof(2, 12, index, 0), 3 + index);
            due("proof, cell " + index, x.proof(2, 12, index, 1), index);
            due("proof back, path " + index, x.proof(12, 2, index, 0), 11 - index);
            due("proof back, cell " + index, x.proof(12, 2, index, 1), 9 - index);
        }
        refused("proof, path 10", x, STATE, () -> x.proof(2, 12, 10, 0));
        refused("proof, cell 10", x, STATE, () -> x.proof(2, 12, 10, 1));
        refused("proof, path -1", x, STATE, () -> x.proof(2, 12, -1, 0));
        refused("proof to the next class", x, STATE, () -> x.proof(2, 13, 0, 0));
        refused("proof of nothing", x, STATE, () -> x.proof(2, 2, 0, 0));
        due("proof of one step", x.proof(4, 5, 0, 0), 5);
        refused("proof of one step, path 1", x, STATE, () -> x.proof(4, 5, 1, 0));
    }

    /** "from each path, one goes to the lowest path that one step leads to": whatever its cell is. */
    private void lowestPathOfAProof() {
        // from a to d there are two ways, by c with the lower cells, and by b with the greater ones
        ArrowDiagrams x = cells(diagram(2, "01;01;01;01"), "a=c;c=d;a=b;b=d");
        due("lowest path, first", x.proof(2, 5, 0, 0), 3);
        due("lowest path, its cell", x.proof(2, 5, 0, 1), 2);
        due("lowest path, second", x.proof(2, 5, 1, 0), 5);
        due("lowest path, second cell", x.proof(2, 5, 1, 1), 3);
        due("lowest path back, first", x.proof(5, 2, 0, 0), 3);
        due("lowest path back, its cell", x.proof(5, 2, 0, 1), 3);
        due("lowest path back, second cell", x.proof(5, 2, 1, 1), 2);
        due("lowest path between the two", x.proof(3, 4, 0, 0), 2);
        due("lowest path between the two, its cell", x.proof(3, 4, 0, 1), 2);
        due("lowest path between the two, second cell", x.proof(3, 4, 1, 1), 0);
    }

    /** "and whose distance to q is one less": a lower path that leads away, or along, is not taken. */
    private void nearerPathOfAProof() {
        ArrowDiagrams x = cells(diagram(2, "01;01;01;01;01"), "b=a;b=c;c=d;a=c");
        // from b to d: a is as far as b, c is nearer
        due("nearer: first", x.proof(3, 5, 0, 0), 4);
        due("nearer: first cell", x.proof(3, 5, 0, 1), 1);
        due("nearer: second", x.proof(3, 5, 1, 0), 5);
        ArrowDiagrams y = cells(diagram(2, "01;01;01;01;01"), "b=a;b=c;c=d");
        // from b to d: a is farther than b
        due("not farther: first", y.proof(3, 5, 0, 0), 4);
        due("not farther: a", y.proof(2, 5, 0, 0), 3);
    }

    /** A cell that is gone makes no step, even where a path that it led to is nearer and lower. */
    private void proofWithoutACell() {
        ArrowDiagrams x = cells(diagram(2, "01;01;01;01"), "a=c;c=d;b=d;a=b");
        due("with the cell", x.proof(2, 5, 0, 0), 3);
        x.dropCell(3);
        due("without the cell", x.proof(2, 5, 0, 0), 4);
        due("without the cell: by", x.proof(2, 5, 0, 1), 0);
        due("without the cell: from b", x.distance(3, 2), 3);
        x.addCell(2, 3);
        due("with it again", x.proof(2, 5, 0, 0), 3);
        x.dropCell(0);
        due("without another one: by", x.proof(2, 5, 0, 1), 2);
        due("without another one: then by", x.proof(2, 5, 1, 1), 1);
    }

    /** "The cell of a step is the lowest cell by which such a step leads from the one to the other." */
    private void lowestCellOfAStep() {
        String[] texts = {"c=c;a=b;b=a;ac=bc", "c=c;b=a;a=b;bc=ac", "c=c;ac=bc;a=b;b=a", "c=c;bc=ac;b=a;a=b"};
        for (String text : texts) {
            ArrowDiagrams x = cells(diagram(3, "01;01;12"), text);
            int ac = number(x, "ac");
            int bc = number(x, "bc");
            due("lowest cell of " + text, x.proof(ac, bc, 0, 1), 1);
            due("lowest cell back of " + text, x.proof(bc, ac, 0, 1), 1);
            x.dropCell(1);
            due("lowest cell left of " + text, x.proof(ac, bc, 0, 1), 1);
            x.dropCell(1);
            due("last cell left of " + text, x.proof(bc, ac, 0, 1), 1);
            x.dropCell(0);
            due("only cell left of " + text, x.proof(bc, ac, 0, 1), 0);
        }
    }

    /** A proof goes from each path to the lowest one, so that back it may go by other paths. */
    private void proofsThereAndBack() {
        ArrowDiagrams x = cells(diagram(3, "01;01;12;12"), "a=b;c=d");
        int ac = number(x, "ac");
        int bd = number(x, "bd");
        due("there", x.proof(ac, bd, 0, 0), number(x, "ad"));
        due("there: cell", x.proof(ac, bd, 0, 1), 1);
        due("there: second cell", x.proof(ac, bd, 1, 1), 0);
        due("back", x.proof(bd, ac, 0, 0), number(x, "ad"));
        due("back: cell", x.proof(bd, ac, 0, 1), 0);
        int ad = number(x, "ad");
        int bc = number(x, "bc");
        due("across", x.proof(ad, bc, 0, 0), ac);
        due("across back", x.proof(bc, ad, 0, 0), ac);
    }

    // ---- promise 17

    /** "0 for its first path, 1 for its second path" */
    private void cellPaths() {
        ArrowDiagrams x = cells(diagram(3, "01;12;02;02"), "d=ab;ab=d;c=c;ab=ab");
        x.addCell(2, 2);
        int[][] paths = {{6, 7}, {7, 6}, {5, 5}, {7, 7}, {2, 2}};
        for (int cell = 0; cell < paths.length; cell++) {
            due("first path of " + cell, x.cell(cell, 0), paths[cell][0]);
            due("second path of " + cell, x.cell(cell, 1), paths[cell][1]);
        }
        refused("no cell 5", x, INDEX, () -> x.cell(5, 0));
        refused("no property 5", x, ARGUMENT, () -> x.cell(4, 5));
        refused("no property -1", x, ARGUMENT, () -> x.cell(4, -1));
    }

    private void dueForCells(String what, ArrowDiagrams x, int property, String want) {
        StringBuilder got = new StringBuilder();
        for (int cell = 0; cell < x.count(2); cell++) {
            got.append(x.cell(cell, property));
        }
        checks.due(what, got.toString(), want);
    }

    /** "A cell is redundant if its paths are equal by the other cells alone." */
    private void redundant() {
        dueForCells("one cell", cells(diagram(2, "01;01"), "a=b"), 2, "0");
        dueForCells("one cell of one path", cells(diagram(2, "01;01"), "a=a"), 2, "1");
        dueForCells("the same cell twice", cells(diagram(2, "01;01"), "a=b;a=b"), 2, "11");
        dueForCells("the same cell both ways", cells(diagram(2, "01;01"), "a=b;b=a"), 2, "11");
        dueForCells("a triangle", cells(diagram(2, "01;01;01"), "a=b;b=c;c=a"), 2, "111");
        dueForCells("a triangle less one", cells(diagram(2, "01;01;01"), "a=b;b=c"), 2, "00");
        dueForCells("ten of a chain", chain(), 2, "0000000000");
        dueForCells("ten around", cells(diagram(2, ARROWS_14), CHAIN.replace("j=k", "j=a")), 2, "1111111111");
        ArrowDiagrams x = new ArrowDiagrams();
        x.addCell(0, 0);
        dueForCells("a cell of empty paths", x, 2, "1");
    }

    /** The same, when the other cells make steps inside the paths of the cell. */
    private void redundantByParts() {
        dueForCells("part", cells(diagram(3, "01;01;12"), "a=b;ac=bc"), 2, "01");
        dueForCells("part of three", cells(diagram(4, "01;01;12;12;23;23"), "ace=bdf;e=f;c=d;a=b"), 2, "1000");
        dueForCells("part by part", cells(diagram(4, "01;12;23;02;13;03"), "ab=d;dc=f;bc=e;ae=f"), 2, "0101");
    }

    /** "at first it has all cells; .. the cell leaves the core if its paths are equal by the other cells that are in the core" */
    private void core() {
        dueForCells("core of one cell", cells(diagram(2, "01;01"), "a=b"), 3, "1");
        dueForCells("core of one path", cells(diagram(2, "01;01"), "a=a"), 3, "0");
        dueForCells("core of the same three times", cells(diagram(2, "01;01"), "a=b;b=a;a=b"), 3, "100");
        dueForCells("core of a chain", chain(), 3, "1111111111");
        dueForCells("core around", cells(diagram(2, ARROWS_14), CHAIN.replace("j=k", "j=a")), 3, "1111111110");
        ArrowDiagrams same = cells(diagram(2, "01;01"), "a=b;".repeat(9) + "a=b");
        dueForCells("core of ten times the same", same, 3, "1000000000");
        due("core of ten times the same: count", same.count(7), 1);
        ArrowDiagrams none = cells(diagram(2, "01"), "a=a;".repeat(9) + "a=a");
        dueForCells("core of ten times one path", none, 3, "0000000000");
        due("core of ten times one path: count", none.count(7), 0);
        ArrowDiagrams x = chain();
        due("core of a chain: count", x.count(7), 10);
        x.dropCell(4);
        due("core of a chain less one: count", x.count(7), 9);
        x.addCell(2, 3);
        due("core of a chain, a cell twice: count", x.count(7), 9);
        due("core of a chain, a cell twice: the later one", x.cell(9, 3), 0);
        x.dropCell(0);
        due("core of a chain, the earlier one gone", x.cell(8, 3), 1);
    }

    /** "for each cell, from the one with the greatest number down" */
    private void coreFromTheGreatestDown() {
        dueForCells("a triangle", cells(diagram(2, "01;01;01"), "a=b;b=c;c=a"), 3, "110");
        dueForCells("the whole behind its part", cells(diagram(3, "01;01;12"), "a=b;ac=bc"), 3, "10");
        dueForCells("the whole before its part", cells(diagram(3, "01;01;12"), "ac=bc;a=b"), 3, "01");
        dueForCells("two pairs", cells(diagram(2, "01;01;01"), "a=b;b=c;b=a;c=b"), 3, "1100");
        // the fourth leaves by the others; then the third is needed, and the second leaves by none
        dueForCells("a square", cells(diagram(2, "01;01;01;01"), "a=b;b=c;c=d;d=a"), 3, "1110");
    }

    /** "A cell holds if both of its paths have the same function." */
    private void holds() {
        ArrowDiagrams x = cells(diagram(3, "01;01;12"), "a=b;ac=bc;a=a");
        x.setSize(0, 4);
        x.setSize(1, 4);
        dueForCells("all codes 0", x, 4, "111");
        for (int element = 0; element < 4; element++) {
            x.setFunction(1, 1 << 2 * element);
            dueForCells("b differs at " + element, x, 4, "011");
            due("b differs at " + element + ": count", x.count(6), 2);
            x.setFunction(2, 4);
            dueForCells("b differs at " + element + ", c tells it", x, 4, "001");
            due("b differs at " + element + ", c tells it: count", x.count(6), 1);
            x.setFunction(2, 0);
        }
        x.setFunction(0, 64);
        dueForCells("the same code", x, 4, "111");
        x.setFunction(0, 128);
        x.setSize(1, 1);
        dueForCells("to one element", x, 4, "111");
    }

    // ---- promises 18 and 19

    /** "what: 0 .. to .. 7", at the least. */
    private void countsOfNothing() {
        ArrowDiagrams x = new ArrowDiagrams();
        int[] counts = {2, 0, 0, 2, 2, 0, 0, 0};
        for (int what = 0; what < 8; what++) {
            due("least count " + what, x.count(what), counts[what]);
        }
        refused("count 8", x, ARGUMENT, () -> x.count(8));
        refused("count -1", x, ARGUMENT, () -> x.count(-1));
    }

    /** The same at the most: 8 objects, 14 arrows, 10 cells, 300 paths and classes, 28 pairs. */
    private void countsOfTheMost() {
        ArrowDiagrams x = diagram(7, PATHS_278);
        x.addArrow(2, 5);
        x.addCell(1, 1);
        for (int i = 1; i < 10; i++) {
            x.addCell(299, 299);
        }
        int[] counts = {7, 14, 10, 300, 300, 1, 10, 0};
        for (int what = 0; what < 8; what++) {
            due("greatest count " + what, x.count(what), counts[what]);
        }
        ArrowDiagrams y = diagram(8, "01;12;23;34;45;56;67");
        due("all pairs", y.count(5), 28);
        due("8 objects", y.count(0), 8);
    }

    /** "A pair of objects commutes if there is a path from the one to the other, and all of them are equal." */
    private void pairsThatCommute() {
        ArrowDiagrams x = diagram(3, "");
        due("no paths", x.count(5), 0);
        x.addArrow(0, 2);
        due("one path", x.count(5), 1);
        x.addArrow(0, 2);
        due("two paths", x.count(5), 0);
        x.addCell(3, 4);
        due("two equal paths", x.count(5), 1);
        x.addArrow(0, 2);
        due("one more", x.count(5), 0);
        x.addCell(5, 3);
        due("all equal", x.count(5), 1);
        x.addArrow(0, 1);
        due("one path more", x.count(5), 2);
        x.addArrow(1, 2);
        due("the longer way", x.count(5), 2);
        addCell(x, "de", "a");
        due("the longer way is equal", x.count(5), 3);
    }

    /** "as a double, divided by the number of pairs .. with a path ..; 1.0 if there are no such pairs" */
    private void commuting() {
        for (int objects = 2; objects <= 8; objects++) {
            ArrowDiagrams x = diagram(objects, "");
            checks.due("commuting: no pairs of " + objects, x.commuting(), 1.0);
            x.addArrow(0, objects - 1);
            checks.due("commuting: one pair of " + objects, x.commuting(), 1.0);
            x.addArrow(0, objects - 1);
            checks.due("commuting: none of " + objects, x.commuting(), 0.0);
        }
        for (int from = 0; from < 7; from++) {
            ArrowDiagrams x = diagram(8, "01;12;23;34;45;56;67");
            checks.due("commuting: all of 28", x.commuting(), 1.0);
            x.addArrow(from, from + 1);
            int not = (from + 1) * (7 - from);
            checks.due("commuting: all but " + not, x.commuting(), (28 - not) / 28.0);
            due("commuting: count", x.count(5), 28 - not);
        }
        ArrowDiagrams y = diagram(3, "01;01;12");
        checks.due("commuting: a third", y.commuting(), 1.0 / 3.0);
        y.addArrow(1, 2);
        checks.due("commuting: none of three", y.commuting(), 0.0);
    }
}
