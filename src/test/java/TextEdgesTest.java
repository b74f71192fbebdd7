import java.util.Arrays;

/**
 * The boundary sentences of the description on the input text, and those of the promises 7 to 11.
 * Which characters are allowed at a place is tried with all 95 of them, and each test bears the
 * sentence that it tries.
 */
public final class TextEdgesTest extends Cases {
    private static final String NO_LETTERS = "";

    public static void main(String[] args) {
        TextEdgesTest test = new TextEdgesTest();
        test.characterCodes();
        test.sixtyCharacters();
        test.clearInput();
        test.beginningOfTheFirstItem();
        test.beginningAtFourteenArrows();
        test.beginningAtTenCells();
        test.beginningOfALaterItem();
        test.lettersToldBefore();
        test.behindADigit();
        test.behindAnArrow();
        test.behindALetterOfTheFirstPath();
        test.behindEquals();
        test.behindALetterOfTheSecondPath();
        test.longestPathsInTexts();
        test.firstOfManyErrors();
        test.textsBehindOthers();
        test.lengthIfThereIsNone();
        test.readingChangesNothing();
        test.completeTexts();
        test.loadFullBuffer();
        test.loadToFourteenArrows();
        test.loadToTenCells();
        test.loadToThreeHundredPaths();
        test.loadBehindWhatThereIs();
        test.find();
        test.findEveryCharacter();
        test.findLongPaths();
        test.checks.finish();
    }

    private static ArrowDiagrams written(ArrowDiagrams x, String text) {
        write(x, text);
        return x;
    }

    private static ArrowDiagrams withCells(ArrowDiagrams x, int cells) {
        for (int i = 0; i < cells; i++) {
            x.addCell(x.count(0), x.count(0));
        }
        return x;
    }

    /** Behind the text just these characters are allowed, and all others are a syntax error there. */
    private void allowed(Start start, String text, String characters) {
        ArrowDiagrams before = written(start.make(), text);
        due("'" + text + "' has no error", before.firstError(), text.length());
        for (char next = 32; next <= 126; next++) {
            ArrowDiagrams x = written(start.make(), text);
            x.append(next);
            boolean fits = characters.indexOf(next) >= 0;
            due("'" + text + "', then '" + next + "'", x.firstError(), fits ? text.length() + 1 : text.length());
        }
    }

    // ---- promises 7 and 8

    /** "Throws IllegalArgumentException if code is not 32 to 126" */
    private void characterCodes() {
        long hash = new ArrowDiagrams().digest();
        for (int code = -2; code <= 300; code++) {
            ArrowDiagrams x = new ArrowDiagrams();
            int character = code;
            if (code >= 32 && code <= 126) {
                due("append(" + code + ")", x.append(code), 1);
                due("append(" + code + "): the character", x.digest(), (hash + 1) * 31 + code);
                due("append(" + code + "): the length", x.clearInput(), 1);
            } else {
                refused("append(" + code + ")", x, ARGUMENT, () -> x.append(character));
                due("append(" + code + "): the length", x.clearInput(), 0);
            }
        }
    }

    /** "The input buffer has at most 60 characters." "Returns the new length of the buffer." */
    private void sixtyCharacters() {
        ArrowDiagrams x = new ArrowDiagrams();
        for (int length = 1; length <= 60; length++) {
            due("append to " + (length - 1), x.append(126 - length), length);
        }
        long hash = new ArrowDiagrams().digest() + 60;
        for (int length = 1; length <= 60; length++) {
            hash = 31 * hash + 126 - length;
        }
        due("60 characters in their order", x.digest(), hash);
        refused("append to 60", x, STATE, () -> x.append('a'));
        refused("append to 60 again", x, STATE, () -> x.append(126));
        due("60 characters", x.clearInput(), 60);
        due("append behind clearInput", x.append('a'), 1);
    }

    /** "Clears the input buffer. Returns the length that it had." */
    private void clearInput() {
        for (int length = 0; length <= 60; length++) {
            ArrowDiagrams x = written(new ArrowDiagrams(), "0".repeat(length));
            due("clearInput of " + length, x.clearInput(), length);
            due("clearInput of nothing", x.clearInput(), 0);
            due("clearInput: as new", x.digest(), new ArrowDiagrams().digest());
        }
    }

    // ---- promise 9

    /** "an item begins with a digit of an object but the last one, or with a letter of an arrow" */
    private void beginningOfTheFirstItem() {
        for (int objects = 2; objects <= 8; objects++) {
            int number = objects;
            String digits = "0123456".substring(0, objects - 1);
            allowed(() -> diagram(number, ""), "", digits);
            allowed(() -> diagram(number, "01"), "", digits + "a");
            allowed(() -> diagram(number, "01;01;01"), "", digits + "abc");
        }
    }

    /** "no digit after 14 arrows" */
    private void beginningAtFourteenArrows() {
        String thirteen = ARROWS_14.substring(3);
        allowed(() -> diagram(2, thirteen), "", "0abcdefghijklm");
        allowed(() -> diagram(2, thirteen), "01;", "abcdefghijklmn");
        allowed(() -> diagram(2, ARROWS_14), "", "abcdefghijklmn");
        allowed(() -> diagram(2, ARROWS_14), "n=a;", "abcdefghijklmn");
        allowed(() -> diagram(2, ""), thirteen + ";", "0abcdefghijklm");
        allowed(() -> diagram(2, ""), ARROWS_14 + ";", "abcdefghijklmn");
        // the arrows of a text that is not loaded are forgotten
        ArrowDiagrams x = written(diagram(2, thirteen), "01;");
        x.firstError();
        x.clearInput();
        due("the 14th arrow may be told again", written(x, "01;").firstError(), 3);
    }

    /** "and no letter after 10 cells, those that there are included" */
    private void beginningAtTenCells() {
        allowed(() -> withCells(diagram(3, "01;01"), 9), "", "01ab");
        allowed(() -> withCells(diagram(3, "01;01"), 9), "a=b;", "01");
        allowed(() -> withCells(diagram(3, "01;01"), 10), "", "01");
        allowed(() -> withCells(diagram(3, "01;01"), 10), "12;", "01");
        allowed(() -> withCells(diagram(2, ARROWS_14), 9), "n=n;", "");
        allowed(() -> withCells(diagram(2, ARROWS_14), 10), "", "");
        allowed(() -> diagram(2, "01"), "a=a;".repeat(9), "0a");
        allowed(() -> diagram(2, "01"), "a=a;".repeat(10), "0");
        // in the 10th cell itself the letters go on
        allowed(() -> withCells(diagram(3, "01;12;12"), 9), "a", "bc=");
        allowed(() -> withCells(diagram(3, "01;12;12"), 9), "ab=a", "bc");
    }

    /** "one or more items separated by ';'": behind it an item begins again. */
    private void beginningOfALaterItem() {
        allowed(() -> diagram(3, ""), "01;", "01a");
        allowed(() -> diagram(3, "01"), "a=a;", "01a");
        allowed(() -> diagram(4, "01"), "02;a=a;23;", "012abc");
    }

    /** "The letters are those of arrows that there are, or that were told before in the text." */
    private void lettersToldBefore() {
        allowed(() -> diagram(3, "01"), "12;01;", "01abc");
        allowed(() -> diagram(3, "01"), "12;a", "b=");
        allowed(() -> diagram(3, "01"), "12;a=", "a");
        allowed(() -> diagram(3, "01"), "12;01;a=", "ac");
        allowed(() -> diagram(3, "01"), "12;01;c=a", "b;");
        allowed(() -> diagram(3, "01"), "a", "=");
    }

    /** "behind a digit comes the digit of an object with a greater number" */
    private void behindADigit() {
        for (int objects = 2; objects <= 8; objects++) {
            for (int from = 0; from < objects - 1; from++) {
                int number = objects;
                allowed(() -> diagram(number, "01"), "" + from, "01234567".substring(from + 1, objects));
            }
        }
        allowed(() -> diagram(8, "01"), "a=a;5", "67");
    }

    /** "';' may come behind an arrow": and nothing else. */
    private void behindAnArrow() {
        allowed(() -> diagram(2, ""), "01", ";");
        allowed(() -> diagram(8, "01;12"), "67", ";");
        allowed(() -> diagram(8, "01;12"), "01;07", ";");
        allowed(() -> diagram(2, ARROWS_14.substring(3)), "01", ";");
    }

    /** "behind a letter of a path comes a letter of an arrow that begins where the last one ends, or, in the first path, '='" */
    private void behindALetterOfTheFirstPath() {
        Start start = () -> diagram(4, "01;12;02;23;13;03");
        allowed(start, "a", "be=");
        allowed(start, "ab", "d=");
        allowed(start, "c", "d=");
        allowed(start, "abd", "=");
        allowed(start, "ae", "=");
        allowed(start, "d", "=");
        allowed(start, "f", "=");
        allowed(start, "12;a", "beg=");
        allowed(start, "c=ab;a", "be=");
    }

    /** "behind '=' comes a letter of an arrow that begins where the first path begins" */
    private void behindEquals() {
        Start start = () -> diagram(4, "01;12;02;23;13;03");
        allowed(start, "a=", "acf");
        allowed(start, "abd=", "acf");
        allowed(start, "b=", "be");
        allowed(start, "d=", "d");
        allowed(start, "23;d=", "dg");
        allowed(start, "e=bd;ab=", "acf");
    }

    /** "';' may come .. behind a cell whose second path ends where its first path ends" */
    private void behindALetterOfTheSecondPath() {
        Start start = () -> diagram(4, "01;12;02;23;13;03");
        allowed(start, "a=a", "be;");
        allowed(start, "ab=a", "be");
        allowed(start, "ab=c", "d;");
        allowed(start, "ab=cd", NO_LETTERS);
        allowed(start, "c=f", NO_LETTERS);
        allowed(start, "c=a", "be");
        allowed(start, "c=ab", "d;");
        allowed(start, "c=abd", NO_LETTERS);
        allowed(start, "abd=f", ";");
        allowed(start, "abd=abd", ";");
        allowed(start, "f=ae", ";");
        allowed(start, "d=d", ";");
    }

    /** A path has at most seven letters, because there are eight objects. */
    private void longestPathsInTexts() {
        Start start = () -> diagram(8, "01;12;23;34;45;56;67;67;07");
        allowed(start, "abcdef", "gh=");
        allowed(start, "abcdefg", "=");
        allowed(start, "abcdefg=", "ai");
        allowed(start, "abcdefg=abcdef", "gh");
        allowed(start, "abcdefg=abcdefh", ";");
        allowed(start, "abcdefg=i", ";");
        ArrowDiagrams x = written(start.make(), "abcdefg=abcdefh;i=abcdefg;abcdefh=abcdefh;abcdef=abcdef;g=h");
        due("longest: load", x.load(), 5);
        due("longest: equal", x.distance(number(x, "i"), number(x, "abcdefh")), 2);
    }

    /** "Returns the index of the first character that is a syntax error" */
    private void firstOfManyErrors() {
        due("errors everywhere", errorOf(diagram(2, ""), "????"), 0);
        due("errors from 1 on", errorOf(diagram(2, ""), "0???"), 1);
        due("errors, then what would fit", errorOf(diagram(2, ""), "?01;01"), 0);
        due("an error inside, then what would fit", errorOf(diagram(2, ""), "01,01"), 2);
        due("the last of 60", errorOf(diagram(8, ""), "01;".repeat(14) + "a=a;a=a;a=a;a=a;aa"), 59);
        due("the 60th fits", errorOf(diagram(8, ""), "01;".repeat(14) + "a=a;a=a;a=a;a=a;a="), 60);
    }

    /** What an earlier text left in the buffer does not count. */
    private void textsBehindOthers() {
        ArrowDiagrams x = diagram(4, "01;12");
        String[] texts = {"ab=ab;02;c=ab", "0", "a", "a=", "01;?", "01;12;23", "b=b", "", "ab=c", "a=a;a=a"};
        int[] errors = {13, 1, 1, 2, 3, 8, 3, 0, 3, 7};
        for (int i = 0; i < texts.length; i++) {
            due("error of '" + texts[i] + "' behind another text", errorOf(x, texts[i]), errors[i]);
        }
        due("load behind other texts", x.load(), 2);
        due("load behind other texts: cells", x.count(2), 2);
        due("load behind other texts: the cell", x.cell(1, 1), 4);
        due("load behind other texts: arrows", x.count(1), 2);
    }

    /** "the length of the buffer if there is none" */
    private void lengthIfThereIsNone() {
        String text = "01;12;02;ab=c;c=ab;23;abd=cd";
        for (int length = 0; length <= text.length(); length++) {
            due("no error in " + length, errorOf(diagram(4, ""), text.substring(0, length)), length);
        }
    }

    /** A buffer that is read and not loaded leaves no arrow and no cell behind. */
    private void readingChangesNothing() {
        ArrowDiagrams x = written(diagram(3, "01;01"), "12;ac=bc;a=b");
        long before = x.digest();
        due("read", x.firstError(), 12);
        due("read again", x.firstError(), 12);
        due("read: nothing is changed", x.digest(), before);
        due("read: the buffer stays", x.clearInput(), 12);
        due("read: arrows", x.count(1), 2);
        due("read: not equal", x.distance(3, 4), -1);
        due("read: no letter", number(x, "c"), -1);
    }

    // ---- promise 10

    /** "A buffer without a syntax error is complete if a ';' could come next." */
    private void completeTexts() {
        String text = "01;12;02;ab=c;c=ab;23;abd=cd";
        int[] complete = {2, 5, 8, 13, 18, 21, 28};
        for (int length = 0; length <= text.length(); length++) {
            ArrowDiagrams x = written(diagram(4, ""), text.substring(0, length));
            int items = 1 + Arrays.binarySearch(complete, length);
            if (items > 0) {
                due("load of " + length, x.load(), items);
                due("load of " + length + ": the buffer", x.clearInput(), 0);
            } else {
                refused("load of " + length, x, ARGUMENT, x::load);
                due("load of " + length + ": the buffer", x.clearInput(), length);
            }
        }
        // where another letter may follow, the text is complete all the same
        due("load of a cell that could go on", written(diagram(3, "01;12"), "a=a").load(), 1);
        ArrowDiagrams y = written(diagram(3, "01;12"), "a=ab");
        refused("load of a cell that went too far", y, ARGUMENT, y::load);
    }

    /** A full buffer is complete if its text is: ';' is asked for by the text, not by the room. */
    private void loadFullBuffer() {
        String arrows = "01;01;12;12;02;23;34;45;56;67;07;07;37;13";
        ArrowDiagrams x = written(diagram(8, ""), arrows + ";a=b;ac=e;bd=e;e=ad");
        refused("full: one more", x, STATE, () -> x.append(';'));
        due("full: no error", x.firstError(), 60);
        due("full: load", x.load(), 18);
        due("full: arrows", x.count(1), 14);
        due("full: cells", x.count(2), 4);
        due("full: the buffer is empty", x.append('a'), 1);
        ArrowDiagrams y = written(diagram(8, ""), arrows + ";a=b;ac=e;bd=e;e=a;");
        due("full, an error at its end", y.firstError(), 59);
        refused("full, an error at its end: load", y, ARGUMENT, y::load);
        ArrowDiagrams z = written(diagram(8, ""), arrows + ";a=b;ac=e;bd=e;e=e;");
        due("full, not complete", z.firstError(), 60);
        refused("full, not complete: load", z, ARGUMENT, z::load);
        due("full, not complete: the buffer stays", z.clearInput(), 60);
    }

    /** "Returns how many items were added": from one to 14 arrows. */
    private void loadToFourteenArrows() {
        for (int there = 0; there < 14; there++) {
            String old = there == 0 ? "" : ARROWS_14.substring(0, 3 * there - 1);
            String rest = ARROWS_14.substring(3 * there);
            ArrowDiagrams x = written(diagram(2, old), rest);
            due("load behind " + there + " arrows", x.load(), 14 - there);
            due("load behind " + there + " arrows: arrows", x.count(1), 14);
            due("load behind " + there + " arrows: 'n'", number(x, "n"), 15);
            ArrowDiagrams y = written(diagram(2, old), rest + ";01");
            due("one arrow too many behind " + there, y.firstError(), rest.length() + 1);
            refused("load of one arrow too many behind " + there, y, ARGUMENT, y::load);
            due("one arrow too many: none is added", y.count(1), there);
        }
    }

    /** The same for cells, from one to 10. */
    private void loadToTenCells() {
        for (int there = 0; there < 10; there++) {
            String rest = "a=b;".repeat(9 - there) + "b=c";
            ArrowDiagrams x = written(withCells(diagram(2, "01;01;01"), there), rest);
            due("load behind " + there + " cells", x.load(), 10 - there);
            due("load behind " + there + " cells: cells", x.count(2), 10);
            due("load behind " + there + " cells: the last one", x.cell(9, 1), 4);
            ArrowDiagrams y = written(withCells(diagram(2, "01;01;01"), there), rest + ";a=a");
            due("one cell too many behind " + there, y.firstError(), rest.length() + 1);
            refused("load of one cell too many behind " + there, y, ARGUMENT, y::load);
            due("one cell too many: none is added", y.count(2), there);
        }
    }

    /** "Throws IllegalStateException if there would be more than 300 paths" */
    private void loadToThreeHundredPaths() {
        ArrowDiagrams x = written(diagram(6, ""), PATHS_300 + ";b=c;d=d;e=e;f=f;f=g");
        due("load of 300 paths", x.load(), 18);
        due("load of 300 paths: paths", x.count(3), 300);
        ArrowDiagrams y = written(diagram(6, ""), PATHS_300 + ";05");
        refused("load of 301 paths", y, STATE, y::load);
        due("load of 301 paths: no error of the text", y.firstError(), 41);
        due("load of 301 paths: paths", y.count(3), 6);
        ArrowDiagrams z = written(diagram(6, PATHS_234), "34");
        due("load of 66 paths behind 234", z.load(), 1);
        due("load of 66 paths: paths", z.count(3), 300);
        ArrowDiagrams w = written(diagram(6, PATHS_234), "45");
        refused("load of 67 paths behind 234", w, STATE, w::load);
        ArrowDiagrams v = written(diagram(6, PATHS_300), "a=a;m=l");
        due("load of cells among 300 paths", v.load(), 2);
        // the most paths that a text can tell: no sum and no table gives way
        ArrowDiagrams most = written(diagram(8, ""), "01;01;12;12;23;23;34;34;45;45;56;56;67;67");
        refused("load of many more paths", most, STATE, most::load);
        due("load of many more paths: the buffer stays", most.clearInput(), 41);
    }

    /** "Adds the arrows and cells in the buffer, in their order, and clears the buffer." */
    private void loadBehindWhatThereIs() {
        ArrowDiagrams x = diagram(4, "23;01");
        x.addCell(4, 4);
        x.setSize(1, 3);
        x.setFunction(0, 4);
        x.setFunction(1, 9);
        write(x, "b=b;12;bc=bc;02;d=bc;12;c=e;ca=ea");
        due("load", x.load(), 8);
        due("load: arrows", x.count(1), 5);
        due("load: cells", x.count(2), 6);
        String[] first = {"a", "b", "bc", "d", "c", "ca"};
        String[] second = {"a", "b", "bc", "bc", "e", "ea"};
        for (int cell = 0; cell < first.length; cell++) {
            due("load: first path of cell " + cell, x.cell(cell, 0), number(x, first[cell]));
            due("load: second path of cell " + cell, x.cell(cell, 1), number(x, second[cell]));
        }
        int[] ends = {23, 1, 12, 2, 12};
        int[] codes = {4, 9, 0, 0, 0};
        for (int arrow = 0; arrow < ends.length; arrow++) {
            due("load: ends of arrow " + arrow, 10 * x.path(4 + arrow, 0) + x.path(4 + arrow, 1), ends[arrow]);
            due("load: code of arrow " + arrow, x.setFunction(arrow, 0), codes[arrow]);
        }
        due("load: sizes stay", x.setSize(1, 3), 3);
        due("load: the buffer", x.clearInput(), 0);
    }

    // ---- promise 11

    /** "NONE if the buffer is no path (or empty)" "The buffer stays." */
    private void find() {
        ArrowDiagrams x = diagram(4, "23;01;12;01");
        due("find: nothing", x.find(), ArrowDiagrams.NONE);
        write(x, "a");
        x.clearInput();
        due("find: nothing any more", x.find(), ArrowDiagrams.NONE);
        write(x, "a=a");
        x.load();
        due("find: nothing behind load", x.find(), ArrowDiagrams.NONE);
        write(x, "bca");
        x.clearInput();
        write(x, "b");
        due("find: what is left of another text does not count", x.find(), 5);
        String[] paths = {"a", "b", "c", "d", "bc", "ca", "dc", "bca", "dca"};
        for (int i = 0; i < paths.length; i++) {
            x.clearInput();
            write(x, paths[i]);
            due("find " + paths[i], x.find(), 4 + i);
            due("find " + paths[i] + ": the buffer stays", x.clearInput(), paths[i].length());
        }
        for (String none : new String[] {"ab", "cb", "aa", "bb", "bd", "ba", "bcb", "bcaa", "e", "be", "A", "b c", "bc=bc"}) {
            due("find " + none, number(x, none), ArrowDiagrams.NONE);
        }
    }

    /** "without anything else": all 95 characters alone, before a path and behind it. */
    private void findEveryCharacter() {
        for (char c = 32; c <= 126; c++) {
            ArrowDiagrams x = diagram(3, "01;12;12");
            due("find '" + c + "'", number(x, "" + c), c >= 'a' && c <= 'c' ? 3 + c - 'a' : -1);
            due("find 'a" + c + "'", number(x, "a" + c), c == 'b' ? 6 : c == 'c' ? 7 : -1);
            due("find '" + c + "b'", number(x, c + "b"), c == 'a' ? 6 : -1);
            due("find 'ab" + c + "'", number(x, "ab" + c), -1);
            ArrowDiagrams y = diagram(2, ARROWS_14);
            due("find '" + c + "' of 14", number(y, "" + c), c >= 'a' && c <= 'n' ? 2 + c - 'a' : -1);
        }
    }

    private void findLongPaths() {
        ArrowDiagrams x = diagram(8, "01;12;23;34;45;56;67");
        due("find seven letters", number(x, "abcdefg"), x.count(3) - 1);
        due("find eight letters", number(x, "abcdefgg"), -1);
        due("find seven letters and a space", number(x, "abcdefg "), -1);
        due("find 60 letters", number(x, "abcdefg".repeat(8) + "abcd"), -1);
        due("find 60 times a", number(x, "a".repeat(60)), -1);
        due("find the last six", number(x, "bcdefg"), x.count(3) - 2);
    }
}
