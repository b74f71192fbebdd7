import java.math.BigInteger;
import java.util.ArrayList;
import java.util.List;

/**
 * The boundary sentences of the description on functions, and those of the promises 20 to 28. (What
 * is refused is in RefusedTest.) Each test bears the sentence that it tries.
 */
public final class FunctionEdgesTest extends Cases {
    public static void main(String[] args) {
        FunctionEdgesTest test = new FunctionEdgesTest();
        test.sizes();
        test.sizesClearFunctions();
        test.sizesOfSomeObjectsAlone();
        test.allCodes();
        test.codesAndValues();
        test.elements();
        test.emptyPathsGiveThemselves();
        test.valuesAlongSevenArrows();
        test.imageShares();
        test.separateSixArrows();
        test.separateOrderOfCodes();
        test.separateOrderOfArrows();
        test.separateAllCellsHold();
        test.separateNone();
        test.separateSetsSizesAndFunctions();
        test.separateWithoutArrows();
        test.products();
        test.productsOfTheSmallest();
        test.pullbacks();
        test.pullbackCorners();
        test.equalizers();
        test.equalizersOfTheSmallest();
        test.digestOfEachValue();
        test.digestOfCommuting();
        test.digestWithOverflow();
        test.digestOfAFullBuffer();
        test.checks.finish();
    }

    private static int power(int base, int exponent) {
        int result = 1;
        for (int i = 0; i < exponent; i++) {
            result *= base;
        }
        return result;
    }

    /** The code of the function with this number among all from so many elements to so many. */
    private static int codeOf(int function, int elements, int values) {
        int code = 0;
        for (int x = 0; x < elements; x++) {
            code += function / power(values, x) % values * power(4, x);
        }
        return code;
    }

    private static int value(int code, int x) {
        return code / power(4, x) % 4;
    }

    // ---- promises 20 and 21

    /** "Each object has a size, 1 to 4, which is 2 at first". "Returns the previous size." */
    private void sizes() {
        for (int object = 0; object < 8; object++) {
            ArrowDiagrams x = diagram(8, "");
            int previous = 2;
            for (int size : new int[] {1, 4, 3, 2, 4, 4, 1}) {
                due("setSize(" + object + ", " + size + ")", x.setSize(object, size), previous);
                due("elements of " + object, x.path(object, 5), size);
                previous = size;
            }
            int last = object;
            refused("setSize(" + object + ", 0)", x, ARGUMENT, () -> x.setSize(last, 0));
            refused("setSize(" + object + ", 5)", x, ARGUMENT, () -> x.setSize(last, 5));
            due("setSize behind refused ones", x.setSize(object, 2), 1);
        }
        ArrowDiagrams y = new ArrowDiagrams();
        due("setSize of the last of two", y.setSize(1, 3), 2);
        refused("setSize of object 2 of two", y, INDEX, () -> y.setSize(2, 3));
    }

    /** "The functions of all arrows that lead from it or to it get the code 0." */
    private void sizesClearFunctions() {
        for (int object = 0; object < 4; object++) {
            String arrows = "01;12;23;02;13;03";
            for (int size = 1; size <= 4; size++) {
                ArrowDiagrams x = diagram(4, arrows);
                for (int arrow = 0; arrow < 6; arrow++) {
                    x.setFunction(arrow, 5);
                }
                due("size of " + object, x.setSize(object, size), 2);
                for (int arrow = 0; arrow < 6; arrow++) {
                    boolean touched = arrows.substring(3 * arrow, 3 * arrow + 2).indexOf('0' + object) >= 0;
                    due("size of " + object + ": code of " + arrow, x.setFunction(arrow, 0), touched ? 0 : 5);
                }
            }
        }
    }

    /** A size is one of the object alone; a refused size leaves the functions. */
    private void sizesOfSomeObjectsAlone() {
        ArrowDiagrams x = diagram(3, "01;12");
        x.setFunction(0, 5);
        x.setFunction(1, 4);
        refused("setSize(1, 5)", x, ARGUMENT, () -> x.setSize(1, 5));
        due("a refused size leaves the function", x.setFunction(0, 5), 5);
        x.setSize(2, 1);
        due("size of 0", x.path(0, 5), 2);
        due("size of 1", x.path(1, 5), 2);
        due("size of 2", x.path(2, 5), 1);
        due("the function to it", x.setFunction(1, 0), 0);
        due("the function beside it", x.setFunction(0, 0), 5);
    }

    /** "its code is the sum of y * 4 to the power of x": just these codes, for all sizes. */
    private void allCodes() {
        for (int elements = 1; elements <= 4; elements++) {
            for (int values = 1; values <= 4; values++) {
                List<Integer> codes = new ArrayList<>();
                for (int i = 0; i < power(values, elements); i++) {
                    codes.add(codeOf(i, elements, values));
                }
                ArrowDiagrams x = diagram(2, "01");
                x.setSize(0, elements);
                x.setSize(1, values);
                int previous = 0;
                for (int code = -3; code <= 260; code++) {
                    int tried = code;
                    String call = "code " + code + " from " + elements + " to " + values;
                    Object got = Checks.outcome(() -> x.setFunction(0, tried));
                    checks.due(call, got, codes.contains(code) ? (Object) previous : "throws.IllegalArgumentException");
                    previous = codes.contains(code) ? code : previous;
                }
                due("the last code stays", x.setFunction(0, 0), previous);
            }
        }
    }

    /** "gives to each element x .. an element y" */
    private void codesAndValues() {
        for (int elements = 1; elements <= 4; elements++) {
            for (int values = 1; values <= 4; values++) {
                ArrowDiagrams x = null;
                for (int i = 0; i < power(values, elements); i++) {
                    if (i % 64 == 0) {
                        x = diagram(2, "01");
                        x.setSize(0, elements);
                        x.setSize(1, values);
                    }
                    int code = codeOf(i, elements, values);
                    x.setFunction(0, code);
                    for (int element = 0; element < elements; element++) {
                        due("value of " + code + " at " + element, x.apply(2, element), value(code, element));
                    }
                }
            }
        }
    }

    // ---- promises 22 and 23

    /** "element: an element of the object from which it leads": 0 to the size minus 1. */
    private void elements() {
        for (int size = 1; size <= 4; size++) {
            ArrowDiagrams x = diagram(3, "01;12");
            x.setSize(0, size);
            x.setSize(1, 5 - size);
            for (int path : new int[] {0, 3, 5}) {
                int elements = size;
                due("apply " + path + " to 0", x.apply(path, 0), 0);
                due("apply " + path + " to the last", x.apply(path, size - 1), path == 0 ? size - 1 : 0);
                refused("apply " + path + " behind the last", x, ARGUMENT, () -> x.apply(path, elements));
                refused("apply " + path + " to -1", x, ARGUMENT, () -> x.apply(path, -1));
            }
            int others = 5 - size;
            due("apply b to the last", x.apply(4, others - 1), 0);
            refused("apply b behind the last", x, ARGUMENT, () -> x.apply(4, others));
        }
    }

    /** "the function of an empty path gives each element to itself" */
    private void emptyPathsGiveThemselves() {
        for (int size = 1; size <= 4; size++) {
            ArrowDiagrams x = diagram(3, "01;12");
            x.setFunction(0, 5);
            x.setFunction(1, 5);
            for (int object = 0; object < 3; object++) {
                x.setSize(object, size);
                for (int element = 0; element < size; element++) {
                    due("empty path of " + object + " at " + element, x.apply(object, element), element);
                }
                due("image of the empty path of " + object, x.imageShare(object), Float.floatToIntBits(1.0f));
            }
        }
    }

    /** "A path has the function that is made by the functions of its arrows, one after the other". */
    private void valuesAlongSevenArrows() {
        ArrowDiagrams x = diagram(8, "01;12;23;34;45;56;67");
        for (int object = 0; object < 8; object++) {
            x.setSize(object, 4);
        }
        // each arrow takes 0 to 1, 1 to 2, 2 to 3, and 3 to 3
        for (int arrow = 0; arrow < 7; arrow++) {
            x.setFunction(arrow, 1 + 4 * 2 + 16 * 3 + 64 * 3);
        }
        int[] paths = {0, 8, number(x, "ab"), number(x, "abc"), number(x, "abcd"), number(x, "abcdefg")};
        int[] images = {4, 3, 2, 1, 1, 1};
        int[] steps = {0, 1, 2, 3, 3, 3};
        for (int i = 0; i < paths.length; i++) {
            due("image of path " + i, x.path(paths[i], 5), images[i]);
            due("share of path " + i, x.imageShare(paths[i]), Float.floatToIntBits(images[i] / 4.0f));
            for (int element = 0; element < 4; element++) {
                due("path " + i + " at " + element, x.apply(paths[i], element), Math.min(3, element + steps[i]));
            }
        }
        // the order counts: first 0 to 2, then 2 to 0
        x.setFunction(0, 2);
        x.setFunction(1, 1);
        due("ab at 0", x.apply(number(x, "ab"), 0), 0);
        due("bc at 0", x.apply(number(x, "bc"), 0), 2);
    }

    /** "Float.floatToIntBits of the number of different elements that its function gives, as a float, divided by the size" */
    private void imageShares() {
        int[][] bits = {
            {0x3f800000}, {0x3f000000, 0x3f800000}, {0x3eaaaaab, 0x3f2aaaab, 0x3f800000},
            {0x3e800000, 0x3f000000, 0x3f400000, 0x3f800000},
        };
        int[] codes = {0, 1, 33, 27};
        for (int size = 1; size <= 4; size++) {
            for (int image = 1; image <= size; image++) {
                ArrowDiagrams x = diagram(2, "01");
                x.setSize(0, 4);
                x.setSize(1, size);
                // 0 to 0; or 0 to 1; or 0 to 1, 2 to 2; or 0 to 3, 1 to 2, 2 to 1
                x.setFunction(0, codes[image - 1]);
                due("share " + image + " of " + size, x.imageShare(2), bits[size - 1][image - 1]);
                due("share " + image + " of " + size, x.imageShare(2), Float.floatToIntBits((float) image / (float) size));
            }
        }
        // of the size of the object to which it leads, not of the one from which it leads
        ArrowDiagrams y = diagram(2, "01");
        y.setSize(0, 1);
        y.setSize(1, 4);
        due("share of one element among four", y.imageShare(2), 0x3e800000);
        y.setSize(0, 4);
        y.setSize(1, 1);
        due("share of four elements in one", y.imageShare(2), 0x3f800000);
    }

    // ---- promise 24

    /** "Throws IllegalStateException if there are more than 6 arrows" */
    private void separateSixArrows() {
        for (int arrows = 2; arrows <= 8; arrows++) {
            ArrowDiagrams x = diagram(2, ARROWS_14.substring(0, 3 * arrows - 1));
            int last = 1 + arrows;
            if (arrows <= 6) {
                due("separate the last two of " + arrows, x.separate(last - 1, last), 1);
                due("separate the first two of " + arrows, x.separate(2, 3), power(4, arrows - 2));
                due("separate the last one from itself", x.separate(last, last), ArrowDiagrams.NONE);
            } else {
                refused("separate of " + arrows, x, STATE, () -> x.separate(last - 1, last));
                refused("separate one path of " + arrows, x, STATE, () -> x.separate(last, last));
                refused("separate an empty path of " + arrows, x, STATE, () -> x.separate(0, 0));
            }
        }
    }

    /** "go through all codes of functions (0, 1, 4 and 5 in this order" */
    private void separateOrderOfCodes() {
        // a and b lead from 1 to 2; c, from 0 to 1, makes them equal where it goes
        ArrowDiagrams x = cells(diagram(3, "12;12;01"), "ca=cb");
        // a has 0, b has 1 (0 to 1, 1 to 0): so c goes to 1 alone, 5 is the last code
        due("code 5", x.separate(3, 4), 0 * 16 + 1 * 4 + 3);
        due("code 5: a", x.setFunction(0, 0), 0);
        due("code 5: b", x.setFunction(1, 1), 1);
        due("code 5: c", x.setFunction(2, 5), 5);
        ArrowDiagrams y = cells(diagram(3, "01;12;12"), "ab=ac");
        // a goes to 0, where b and c, 4 (0 to 0, 1 to 1), are equal
        due("code 4", y.separate(number(y, "b"), number(y, "c")), 2);
        due("code 4: c", y.setFunction(2, 4), 4);
        ArrowDiagrams z = diagram(2, "01;01");
        due("code 1", z.separate(2, 3), 1);
        due("code 1: b", z.setFunction(1, 1), 1);
        due("code 1: at 0", z.apply(3, 0), 1);
        due("code 1: at 1", z.apply(3, 1), 0);
        // a has to tell b and c apart, and is 1 (0 to 1, 1 to 0); b goes to 0, and c to 1, where ca = bd
        ArrowDiagrams w = cells(diagram(4, "23;12;12;23"), "ca=bd");
        due("the arrow 0 too", w.separate(number(w, "ba"), number(w, "ca")), 64 + 4 * 3);
        int[] codes = {1, 0, 5, 0};
        for (int arrow = 0; arrow < 4; arrow++) {
            due("the arrow 0 too: code of " + arrow, w.setFunction(arrow, 0), codes[arrow]);
        }
    }

    /** "the function of the last arrow changes first, that of the arrow 0 last), from all codes 0 on" */
    private void separateOrderOfArrows() {
        for (int one = 0; one < 6; one++) {
            for (int other = one + 1; other < 6; other++) {
                ArrowDiagrams x = diagram(2, "01;01;01;01;01;01");
                x.setFunction(one, 5);
                due("arrows " + one + " and " + other, x.separate(2 + one, 2 + other), power(4, 5 - other));
                due("the code of the later one", x.setFunction(other, 0), 1);
                due("the code of the other one", x.setFunction(one, 0), 0);
                due("the other way", x.separate(2 + other, 2 + one), power(4, 5 - other));
            }
        }
    }

    /** "functions by which all cells hold" */
    private void separateAllCellsHold() {
        ArrowDiagrams x = diagram(2, "01;01;01;01;01;01");
        x.addCell(2, 2);
        due("a cell that always holds", x.separate(6, 7), 1);
        x.addCell(6, 7);
        due("the last two are equal: c and d", x.separate(4, 5), 16);
        due("the last two are equal: d and e", x.separate(5, 6), 5);
        x.addCell(5, 6);
        due("the last three are equal: c and d", x.separate(4, 5), 16 + 4 + 1);
        due("the last three are equal: e and f", x.separate(6, 7), ArrowDiagrams.NONE);
        x.addCell(2, 3);
        due("so are the first two: b and c", x.separate(3, 4), 64);
        due("so are the first two: b and d", x.separate(3, 5), 16 + 4 + 1);
        x.dropCell(1);
        due("the last two may differ again", x.separate(6, 7), 1);
        x.dropCell(1);
        x.dropCell(1);
        due("all may differ again", x.separate(2, 3), 256);
        x.dropCell(0);
        due("without cells", x.separate(2, 3), 256);
    }

    /** Arrows a, b, c and d, e such that cd = bd, be = ad, ce = bd: among two elements two of a, b, c are the same. */
    private static ArrowDiagrams unseparable(String moreArrows) {
        return cells(diagram(3, "01;01;01;12;12" + moreArrows), "cd=bd;be=ad;ce=bd");
    }

    /** "NONE if there are no such functions", "otherwise nothing is changed" */
    private void separateNone() {
        for (String more : new String[] {"", ";02"}) {
            ArrowDiagrams x = unseparable(more);
            x.setSize(0, 3);
            x.setSize(2, 4);
            x.setFunction(0, 17);
            x.setFunction(4, 11);
            int ad = number(x, "ad");
            int bd = number(x, "bd");
            long before = x.digest();
            due("not equal, and not separate", x.distance(ad, bd), ArrowDiagrams.NONE);
            due("no functions", x.separate(ad, bd), ArrowDiagrams.NONE);
            due("no functions, the other way", x.separate(bd, ad), ArrowDiagrams.NONE);
            due("nothing is changed", x.digest(), before);
            due("size of 0", x.setSize(1, 2), 2);
            due("code of a", x.setFunction(0, 0), 0);
        }
        ArrowDiagrams y = cells(diagram(2, "01;01"), "a=b");
        y.setFunction(0, 1);
        long before = y.digest();
        due("equal paths", y.separate(2, 3), ArrowDiagrams.NONE);
        due("one path", y.separate(2, 2), ArrowDiagrams.NONE);
        due("an empty path", y.separate(1, 1), ArrowDiagrams.NONE);
        due("nothing is changed by them", y.digest(), before);
    }

    /** "When such functions are found, the sizes and functions are these": all of them. */
    private void separateSetsSizesAndFunctions() {
        ArrowDiagrams x = diagram(8, "01;12;12;67");
        for (int object = 0; object < 8; object++) {
            x.setSize(object, 1 + object % 4);
        }
        x.setFunction(3, 10);
        due("separate", x.separate(number(x, "b"), number(x, "c")), 4);
        for (int object = 0; object < 8; object++) {
            due("size of " + object, x.path(object, 5), 2);
        }
        int[] codes = {0, 0, 1, 0};
        for (int arrow = 0; arrow < 4; arrow++) {
            due("code of " + arrow, x.setFunction(arrow, 0), codes[arrow]);
        }
        x.addArrow(0, 1);
        due("code of an arrow behind it", x.setFunction(4, 0), 0);
    }

    /** No arrows, and a single choice. */
    private void separateWithoutArrows() {
        ArrowDiagrams x = diagram(8, "");
        x.addCell(0, 0);
        due("an empty path", x.separate(0, 0), ArrowDiagrams.NONE);
        due("the last empty path", x.separate(7, 7), ArrowDiagrams.NONE);
        refused("two of them", x, ARGUMENT, () -> x.separate(0, 7));
    }

    private static ArrowDiagrams cells(ArrowDiagrams x, String text) {
        write(x, text);
        x.load();
        return x;
    }

    // ---- promise 25

    /** "for each element x .., and each element y .., there is exactly one element z .. whose values are x and y" */
    private void products() {
        for (int[] sizes : new int[][] {{1, 1, 1}, {2, 2, 1}, {2, 1, 2}, {4, 2, 2}, {3, 3, 1}, {3, 1, 3}, {4, 4, 1},
            {2, 1, 1}, {1, 2, 1}, {3, 2, 2}, {2, 2, 2}, {4, 2, 1}, {1, 1, 2}, {3, 2, 1}}) {
            ArrowDiagrams x = null;
            int tried = 0;
            for (int i = 0; i < power(sizes[1], sizes[0]); i++) {
                for (int j = 0; j < power(sizes[2], sizes[0]); j++) {
                    int p = codeOf(i, sizes[0], sizes[1]);
                    int q = codeOf(j, sizes[0], sizes[2]);
                    if (tried++ % 100 == 0) {
                        x = diagram(3, "01;02");
                        for (int object = 0; object < 3; object++) {
                            x.setSize(object, sizes[object]);
                        }
                    }
                    x.setFunction(0, p);
                    x.setFunction(1, q);
                    boolean want = true;
                    for (int y = 0; y < sizes[1] * sizes[2]; y++) {
                        want &= sources(sizes[0], p, y / sizes[2], q, y % sizes[2]) == 1;
                    }
                    String call = "product of " + p + " and " + q + " of " + sizes[0] + sizes[1] + sizes[2];
                    due(call, x.isProduct(0, 1), want);
                    due(call + ", the other way", x.isProduct(1, 0), want);
                }
            }
        }
    }

    private static int sources(int size, int p, int x, int q, int y) {
        int found = 0;
        for (int z = 0; z < size; z++) {
            found += value(p, z) == x && value(q, z) == y ? 1 : 0;
        }
        return found;
    }

    /** The same, by hand: none missing, and none twice. */
    private void productsOfTheSmallest() {
        ArrowDiagrams x = diagram(3, "01;02;01");
        due("two elements, four pairs", x.isProduct(0, 1), false);
        for (int object = 0; object < 3; object++) {
            x.setSize(object, 1);
        }
        due("one element each", x.isProduct(0, 1), true);
        due("two arrows to one object", x.isProduct(0, 2), true);
        x.setSize(0, 2);
        due("one pair, twice", x.isProduct(0, 1), false);
        x.setSize(0, 1);
        x.setSize(1, 2);
        due("two pairs, one missing", x.isProduct(0, 1), false);
    }

    // ---- promise 26

    /** "the same function, and for each x and y with f(x) = g(y) there is exactly one z with p(z) = x and q(z) = y" */
    private void pullbacks() {
        int found = 0;
        for (int size = 1; size <= 4; size++) {
            for (int i = 0; i < 16 * power(4, size); i++) {
                int f = codeOf(i % 4, 2, 2);
                int g = codeOf(i / 4 % 4, 2, 2);
                int p = codeOf(i / 16 % power(2, size), size, 2);
                int q = codeOf(i / 16 / power(2, size), size, 2);
                // a 01 is p, b 13 is f, c 02 is q, d 23 is g
                ArrowDiagrams x = diagram(4, "01;13;02;23");
                x.setSize(0, size);
                x.setFunction(0, p);
                x.setFunction(1, f);
                x.setFunction(2, q);
                x.setFunction(3, g);
                boolean want = isPullback(size, p, f, q, g);
                String call = "pullback " + p + " " + f + " " + q + " " + g + " of " + size;
                due(call, x.isPullback(0, 1, 2, 3), want);
                due(call + ", the other way", x.isPullback(2, 3, 0, 1), want);
                found += want ? 1 : 0;
            }
        }
        due("some are pullbacks", found > 0, true);
    }

    private static boolean isPullback(int size, int p, int f, int q, int g) {
        for (int z = 0; z < size; z++) {
            if (value(f, value(p, z)) != value(g, value(q, z))) {
                return false;
            }
        }
        for (int y = 0; y < 4; y++) {
            if (value(f, y / 2) == value(g, y % 2) && sources(size, p, y / 2, q, y % 2) != 1) {
                return false;
            }
        }
        return true;
    }

    /** Sizes of 1 and of 4 at each corner. */
    private void pullbackCorners() {
        ArrowDiagrams x = diagram(4, "01;13;02;23");
        for (int object = 0; object < 4; object++) {
            x.setSize(object, 1);
        }
        due("one element each", x.isPullback(0, 1, 2, 3), true);
        x.setSize(3, 4);
        due("four at the end", x.isPullback(0, 1, 2, 3), true);
        x.setFunction(1, 3);
        due("four at the end, not the same function", x.isPullback(0, 1, 2, 3), false);
        x.setFunction(3, 3);
        due("four at the end, the last of them", x.isPullback(0, 1, 2, 3), true);
        x.setSize(1, 4);
        x.setFunction(1, 0 + 4 * 1 + 16 * 2 + 64 * 3);
        due("p goes to 0, g to 3", x.isPullback(0, 1, 2, 3), false);
        x.setFunction(0, 3);
        due("p goes to the last of four", x.isPullback(0, 1, 2, 3), true);
        x.setFunction(1, 0 + 4 * 1 + 16 * 3 + 64 * 3);
        due("another one goes where the last one goes", x.isPullback(0, 1, 2, 3), false);
        x.setSize(0, 4);
        x.setFunction(1, 255);
        x.setFunction(0, 0 + 4 * 1 + 16 * 2 + 64 * 3);
        due("four pairs", x.isPullback(0, 1, 2, 3), true);
        x.setFunction(0, 0 + 4 * 1 + 16 * 2 + 64 * 2);
        due("one of them twice", x.isPullback(0, 1, 2, 3), false);
    }

    // ---- promise 27

    /** "the same function, and for each x with f(x) = g(x) there is exactly one z with e(z) = x" */
    private void equalizers() {
        int found = 0;
        for (int size = 1; size <= 4; size++) {
            for (int middle = 1; middle <= 3; middle++) {
                int functions = power(2, middle);
                for (int i = 0; i < functions * functions * power(middle, size); i++) {
                    int f = codeOf(i % functions, middle, 2);
                    int g = codeOf(i / functions % functions, middle, 2);
                    int e = codeOf(i / functions / functions, size, middle);
                    ArrowDiagrams x = diagram(3, "01;12;12");
                    x.setSize(0, size);
                    x.setSize(1, middle);
                    x.setFunction(0, e);
                    x.setFunction(1, f);
                    x.setFunction(2, g);
                    boolean want = isEqualizer(size, middle, e, f, g);
                    String call = "equalizer " + e + " " + f + " " + g + " of " + size + " in " + middle;
                    due(call, x.isEqualizer(0, 1, 2), want);
                    found += want ? 1 : 0;
                }
            }
        }
        due("some are equalizers", found > 0, true);
    }

    private static boolean isEqualizer(int size, int middle, int e, int f, int g) {
        for (int z = 0; z < size; z++) {
            if (value(f, value(e, z)) != value(g, value(e, z))) {
                return false;
            }
        }
        for (int x = 0; x < middle; x++) {
            if (value(f, x) == value(g, x) && sources(size, e, x, e, x) != 1) {
                return false;
            }
        }
        return true;
    }

    /** Sizes of 1 and of 4. */
    private void equalizersOfTheSmallest() {
        ArrowDiagrams x = diagram(3, "01;12;12");
        for (int object = 0; object < 3; object++) {
            x.setSize(object, 1);
        }
        due("one element each", x.isEqualizer(0, 1, 2), true);
        x.setSize(0, 2);
        due("one element twice", x.isEqualizer(0, 1, 2), false);
        x.setSize(0, 4);
        x.setSize(1, 4);
        x.setSize(2, 4);
        x.setFunction(0, 3 + 4 * 2 + 16 * 1 + 64 * 0);
        due("four elements", x.isEqualizer(0, 1, 2), true);
        due("four elements, one arrow", x.isEqualizer(0, 2, 2), true);
        x.setFunction(1, 3 * 64);
        due("the last one differs", x.isEqualizer(0, 1, 2), false);
        x.setFunction(2, 3 * 64);
        due("the last one is the same", x.isEqualizer(0, 1, 2), true);
        x.setSize(0, 3);
        x.setFunction(0, 2 + 4 * 1 + 16 * 0);
        due("the last one is missing", x.isEqualizer(0, 1, 2), false);
        x.setFunction(1, 2 * 64);
        due("the last one differs, and is left out", x.isEqualizer(0, 1, 2), true);
    }

    // ---- promise 28

    /** The values of the digest "in this order", asked of objects made in the same way. */
    private static List<Long> valuesOf(Start start, String arrows, String text) {
        List<Long> values = new ArrayList<>();
        ArrowDiagrams x = start.make();
        int[] counts = new int[8];
        for (int what = 0; what < 8; what++) {
            counts[what] = x.count(what);
            values.add((long) counts[what]);
        }
        for (int object = 0; object < counts[0]; object++) {
            values.add((long) start.make().setSize(object, 1));
        }
        for (int arrow = 0; arrow < counts[1]; arrow++) {
            values.add((long) arrows.charAt(3 * arrow) - '0');
            values.add((long) arrows.charAt(3 * arrow + 1) - '0');
            values.add((long) start.make().setFunction(arrow, 0));
        }
        for (int cell = 0; cell < counts[2]; cell++) {
            for (int what = 0; what <= 4; what++) {
                values.add((long) x.cell(cell, what));
            }
        }
        for (int path = 0; path < counts[3]; path++) {
            x = path % 50 == 0 ? start.make() : x;
            for (int what : new int[] {0, 1, 3, 5}) {
                values.add((long) x.path(path, what));
            }
        }
        values.add(Double.doubleToLongBits(x.commuting()));
        values.add((long) text.length());
        for (char c : text.toCharArray()) {
            values.add((long) c);
        }
        return values;
    }

    /** "The hash starts as 1987; each value x replaces the hash by 31 * hash + x", in numbers without a bound, cut at the end. */
    private static long hashOf(List<Long> values) {
        BigInteger hash = BigInteger.valueOf(1987);
        for (long value : values) {
            hash = hash.multiply(BigInteger.valueOf(31)).add(BigInteger.valueOf(value));
        }
        return hash.longValue();
    }

    private static ArrowDiagrams rich(int objects, String arrows, String cells, String text) {
        ArrowDiagrams x = diagram(objects, arrows);
        for (int object = 0; object < objects; object++) {
            x.setSize(object, 4 - object % 4);
        }
        for (int arrow = 0; 3 * arrow < arrows.length(); arrow++) {
            // the objects 3 and 7 have a single element
            boolean single = (arrows.charAt(3 * arrow + 1) - '0') % 4 == 3;
            x.setFunction(arrow, arrow % 2 == 0 || single ? 0 : 1);
        }
        write(x, cells);
        if (!cells.isEmpty()) {
            x.load();
        }
        write(x, text);
        return x;
    }

    private void dueDigest(int objects, String arrows, String cells, String text) {
        Start start = () -> rich(objects, arrows, cells, text);
        List<Long> values = valuesOf(start, arrows, text);
        due("digest of " + values.size() + " values", start.make().digest(), hashOf(values));
    }

    /** "count for 0 to 7; the sizes of all objects; for each arrow ..; for each cell ..; for each path ..; commuting; the buffer" */
    private void digestOfEachValue() {
        dueDigest(2, "", "", "");
        dueDigest(8, "", "", "");
        dueDigest(2, "", "", " ");
        dueDigest(3, "02", "", "~");
        dueDigest(3, "01;12;02", "ab=c", "");
        dueDigest(4, "01;01;12;23;03;13", "a=b;cd=f;ac=bc;ac=ac", "ab=c;");
        dueDigest(8, "01;12;23;34;45;56;67;67;07", "i=abcdefg;abcdefh=i;g=h", "abcdefg");
        dueDigest(2, ARROWS_14, "a=b;".repeat(9) + "m=n", "n=m");
    }

    /** "Double.doubleToLongBits of commuting", of all shares that there are among eight objects in a row. */
    private void digestOfCommuting() {
        String row = "01;12;23;34;45;56;67";
        for (int first = 0; first < 7; first++) {
            dueDigest(8, row + ";" + row.substring(3 * first, 3 * first + 2), "", "");
            for (int second = first; second < 7; second++) {
                String more = ";" + row.substring(3 * first, 3 * first + 2) + ";" + row.substring(3 * second, 3 * second + 2);
                dueDigest(8, row + more, "", "");
            }
        }
        dueDigest(2, "01;01", "", "");
        dueDigest(4, "01;23;23", "", "");
        dueDigest(8, "01;01;23;45;67", "", "");
        dueDigest(8, "01;01;23;23;45;67", "", "");
        dueDigest(8, "01;01;23;23;45;45;67", "", "");
        dueDigest(3, "01;01;12", "", "");
        dueDigest(3, "01;12;02", "", "");
    }

    /** "in long arithmetic with overflow": 300 paths make 1,200 values and more. */
    private void digestWithOverflow() {
        dueDigest(6, PATHS_300, "b=c;e=f;bf=ce;h=i;l=m", "05");
        dueDigest(7, PATHS_278, "a=b;b=c;c=d;d=a;e=f;g=h;i=j;k=l", "25");
        ArrowDiagrams x = new ArrowDiagrams();
        long hash = x.digest();
        for (int length = 1; length <= 60; length++) {
            x.append('~');
            long tail = (hash + length) * power31(length) + '~' * sumOfPowers31(length);
            due("digest with " + length + " characters", x.digest(), tail);
        }
    }

    private static long power31(int exponent) {
        return BigInteger.valueOf(31).pow(exponent).longValue();
    }

    private static long sumOfPowers31(int terms) {
        return BigInteger.valueOf(31).pow(terms).subtract(BigInteger.ONE).divide(BigInteger.valueOf(30)).longValue();
    }

    /** "the length of the input buffer and each of its character codes" */
    private void digestOfAFullBuffer() {
        StringBuilder text = new StringBuilder();
        for (char c = 32; text.length() < 60; c++) {
            text.append(c);
        }
        dueDigest(2, "01", "", text.toString());
        dueDigest(2, "01", "", text.substring(0, 59));
        dueDigest(2, "01", "", text.reverse().toString());
    }
}
