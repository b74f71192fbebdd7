/** Goes through the promises of the document: ordinary inputs, edges and wrong inputs, worked out by hand. */
public final class PromisesTest extends Cases {
    public static void main(String[] args) {
        PromisesTest test = new PromisesTest();
        test.newObject();
        test.begin();
        test.addArrow();
        test.addArrowLimits();
        test.dropArrow();
        test.addCell();
        test.dropCell();
        test.append();
        test.clearInput();
        test.firstErrorOfArrows();
        test.firstErrorOfCells();
        test.firstErrorOfLimits();
        test.load();
        test.loadRefused();
        test.find();
        test.path();
        test.numbersOfPaths();
        test.longestPaths();
        test.askedAtOnce();
        test.arrowOf();
        test.between();
        test.distance();
        test.proof();
        test.cell();
        test.core();
        test.count();
        test.commuting();
        test.setSize();
        test.setFunction();
        test.apply();
        test.imageShare();
        test.separate();
        test.separateRefused();
        test.isProduct();
        test.isPullback();
        test.isEqualizer();
        test.digest();
        test.checks.finish();
    }

    // ---- promises 1 to 10: diagrams

    private void newObject() {
        ArrowDiagrams x = new ArrowDiagrams();
        int[] counts = {2, 0, 0, 2, 2, 0, 0, 0};
        for (int what = 0; what < counts.length; what++) {
            due("new: count " + what, x.count(what), counts[what]);
        }
        due("new: length of the buffer", x.clearInput(), 0);
        due("new: size of 0", x.setSize(0, 2), 2);
        due("new: size of 1", x.setSize(1, 2), 2);
        due("new: NONE", ArrowDiagrams.NONE, -1);
    }

    private void begin() {
        ArrowDiagrams x = new ArrowDiagrams();
        due("begin 8", x.begin(8), 2);
        due("begin: objects", x.count(0), 8);
        due("begin: empty paths", x.count(3), 8);
        due("begin 2", x.begin(2), 8);
        x.addArrow(0, 1);
        x.addCell(2, 2);
        x.setSize(1, 4);
        x.setFunction(0, 15);
        write(x, "01");
        for (int wrong : new int[] {1, 9, 0, -1, LOW, HIGH}) {
            refused("begin " + wrong, x, ARGUMENT, () -> x.begin(wrong));
        }
        due("begin 3", x.begin(3), 2);
        due("begin: no arrows", x.count(1), 0);
        due("begin: no cells", x.count(2), 0);
        due("begin: size of 1", x.setSize(1, 2), 2);
        due("begin: buffer stays", x.clearInput(), 2);
        x.addArrow(0, 1);
        due("begin: old code is gone", x.setFunction(0, 0), 0);
        due("begin: old cells are gone", x.dropArrow(), 0);
    }

    private void addArrow() {
        ArrowDiagrams x = new ArrowDiagrams();
        x.begin(4);
        due("addArrow first", x.addArrow(2, 3), 0);
        due("addArrow second", x.addArrow(0, 2), 1);
        due("addArrow the same again", x.addArrow(0, 2), 2);
        due("addArrow: paths", x.count(3), 4 + 3 + 2);
        x.setFunction(2, 5);
        x.dropArrow();
        x.addArrow(0, 2);
        due("addArrow: code 0", x.setFunction(2, 0), 0);
        int[][] outside = {{-1, 2}, {4, 5}, {0, 4}, {4, 0}, {0, -1}, {LOW, HIGH}, {HIGH, 0}, {-1, -1}};
        for (int[] a : outside) {
            refused("addArrow outside " + a[0] + " " + a[1], x, INDEX, () -> x.addArrow(a[0], a[1]));
        }
        refused("addArrow back", x, ARGUMENT, () -> x.addArrow(3, 0));
        refused("addArrow to itself", x, ARGUMENT, () -> x.addArrow(2, 2));
    }

    private void addArrowLimits() {
        ArrowDiagrams x = new ArrowDiagrams();
        for (int i = 0; i < 14; i++) {
            due("addArrow number " + i, x.addArrow(0, 1), i);
        }
        due("addArrow: 14 arrows", x.count(3), 16);
        refused("addArrow 15th", x, STATE, () -> x.addArrow(0, 1));
        refused("addArrow 15th, outside", x, INDEX, () -> x.addArrow(0, 2));
        refused("addArrow 15th, back", x, ARGUMENT, () -> x.addArrow(1, 0));

        ArrowDiagrams y = diagram(6, PATHS_300);
        due("addArrow: 300 paths", y.count(3), 300);
        refused("addArrow: path 301", y, STATE, () -> y.addArrow(0, 5));
        refused("addArrow: path 301, outside", y, INDEX, () -> y.addArrow(0, 6));
        refused("addArrow: path 301, back", y, ARGUMENT, () -> y.addArrow(5, 5));
        due("addArrow: last path begins", y.path(299, 0), 0);
        due("addArrow: last path ends", y.path(299, 1), 5);
        due("addArrow: last path is the last one", y.arrowOf(299, 4), 12);
        y.dropArrow();
        due("addArrow: one less, then the same again", y.addArrow(4, 5), 12);
    }

    private void dropArrow() {
        ArrowDiagrams x = diagram(3, "01;01;12;01");
        addCell(x, "a", "b");
        addCell(x, "a", "d");
        addCell(x, "ac", "bc");
        addCell(x, "dc", "ac");
        due("dropArrow", x.dropArrow(), 2);
        due("dropArrow: cells", x.count(2), 2);
        due("dropArrow: first cell stays", x.cell(0, 1), number(x, "b"));
        due("dropArrow: third cell moves", x.cell(1, 0), number(x, "ac"));
        due("dropArrow: third cell moves whole", x.cell(1, 1), number(x, "bc"));
        due("dropArrow: inside a path", x.dropArrow(), 1);
        due("dropArrow: second path of a cell", x.dropArrow(), 1);
        due("dropArrow: without cells", x.dropArrow(), 0);
        refused("dropArrow: no arrows", x, STATE, x::dropArrow);

        ArrowDiagrams y = diagram(2, "01");
        y.addCell(0, 0);
        due("dropArrow: a cell of empty paths stays", y.dropArrow(), 0);
        due("dropArrow: it is there", y.count(2), 1);
    }

    private void addCell() {
        ArrowDiagrams x = diagram(3, "01;01;12");
        due("addCell", x.addCell(3, 4), 0);
        due("addCell: the same path", x.addCell(3, 3), 1);
        due("addCell: empty paths", x.addCell(1, 1), 2);
        due("addCell again", x.addCell(4, 3), 3);
        due("addCell: first", x.cell(3, 0), 4);
        due("addCell: second", x.cell(3, 1), 3);
        refused("addCell: no first", x, INDEX, () -> x.addCell(-1, 3));
        refused("addCell: no second", x, INDEX, () -> x.addCell(3, 8));
        refused("addCell: far outside", x, INDEX, () -> x.addCell(HIGH, LOW));
        refused("addCell: not parallel", x, ARGUMENT, () -> x.addCell(3, 5));
        refused("addCell: the same end alone", x, ARGUMENT, () -> x.addCell(5, 6));
        refused("addCell: the same start alone", x, ARGUMENT, () -> x.addCell(3, 6));
        refused("addCell: different empty paths", x, ARGUMENT, () -> x.addCell(0, 1));
        for (int i = 4; i < 10; i++) {
            due("addCell number " + i, x.addCell(6, 7), i);
        }
        refused("addCell: 11th", x, STATE, () -> x.addCell(6, 7));
        refused("addCell: 11th, outside", x, INDEX, () -> x.addCell(6, 8));
        refused("addCell: 11th, not parallel", x, ARGUMENT, () -> x.addCell(3, 7));
        x.addArrow(0, 2);
        due("addCell: numbers change with a new arrow", x.cell(4, 0), 7);
        due("addCell: numbers change with a new arrow", x.cell(4, 1), 8);
    }

    private void dropCell() {
        ArrowDiagrams x = diagram(2, "01;01;01");
        refused("dropCell: no cells", x, INDEX, () -> x.dropCell(0));
        x.addCell(2, 3);
        x.addCell(3, 4);
        x.addCell(4, 4);
        refused("dropCell 3", x, INDEX, () -> x.dropCell(3));
        refused("dropCell -1", x, INDEX, () -> x.dropCell(-1));
        due("dropCell 0", x.dropCell(0), 2);
        due("dropCell: the next moves", x.cell(0, 0), 3);
        due("dropCell: the next but one moves", x.cell(1, 0), 4);
        due("dropCell: paths are not equal any more", x.distance(2, 3), -1);
        due("dropCell: the last", x.dropCell(1), 1);
        due("dropCell: the other one stays", x.cell(0, 1), 4);
        due("dropCell: the only one", x.dropCell(0), 0);
    }

    private void append() {
        ArrowDiagrams x = new ArrowDiagrams();
        due("append 32", x.append(32), 1);
        due("append 126", x.append(126), 2);
        for (int wrong : new int[] {31, 127, 0, -1, 304, LOW, HIGH}) {
            refused("append " + wrong, x, ARGUMENT, () -> x.append(wrong));
        }
        for (int i = 3; i <= 60; i++) {
            due("append: length", x.append('a'), i);
        }
        refused("append: the 61st", x, STATE, () -> x.append('a'));
        refused("append: the 61st, wrong", x, ARGUMENT, () -> x.append(31));
    }

    private void clearInput() {
        ArrowDiagrams x = new ArrowDiagrams();
        due("clearInput: empty", x.clearInput(), 0);
        write(x, "01;");
        due("clearInput", x.clearInput(), 3);
        due("clearInput again", x.clearInput(), 0);
        due("clearInput: nothing is left", x.append('0'), 1);
    }

    private void firstErrorOfArrows() {
        ArrowDiagrams x = new ArrowDiagrams();
        x.begin(4);
        due("firstError: empty", errorOf(x, ""), 0);
        due("firstError: digit of the last object", errorOf(x, "3"), 0);
        due("firstError: last digit but one", errorOf(x, "2"), 1);
        due("firstError: digit of no object", errorOf(x, "4"), 0);
        due("firstError: no lower digit", errorOf(x, "10"), 1);
        due("firstError: not the same digit", errorOf(x, "11"), 1);
        due("firstError: digit too large", errorOf(x, "14"), 1);
        due("firstError: digit of the last object behind", errorOf(x, "13"), 2);
        due("firstError: third digit", errorOf(x, "012"), 2);
        due("firstError: letter behind an arrow", errorOf(x, "01a"), 2);
        due("firstError: semicolon first", errorOf(x, ";"), 0);
        due("firstError: semicolon behind a digit", errorOf(x, "0;"), 1);
        due("firstError: semicolon behind an arrow", errorOf(x, "01;"), 3);
        due("firstError: two semicolons", errorOf(x, "01;;"), 3);
        due("firstError: space", errorOf(x, "01; 12"), 3);
        due("firstError: no letter yet", errorOf(x, "a"), 0);
        due("firstError: letter told before", errorOf(x, "01;a"), 4);
        due("firstError: letter not told", errorOf(x, "01;b"), 3);
        due("firstError: capital letter", errorOf(x, "01;A"), 3);
        due("firstError: signs near the digits", errorOf(x, "/"), 0);
        due("firstError: equals sign first", errorOf(x, "="), 0);
        due("firstError: reads do not add", x.count(1), 0);
    }

    private void firstErrorOfCells() {
        ArrowDiagrams x = diagram(4, "01;01;12;13");
        due("firstError: path", errorOf(x, "ac"), 2);
        due("firstError: does not go on", errorOf(x, "ab"), 1);
        due("firstError: goes on nowhere", errorOf(x, "cd"), 1);
        due("firstError: no such arrow", errorOf(x, "ae"), 1);
        due("firstError: semicolon in the first path", errorOf(x, "a;"), 1);
        due("firstError: digit in a path", errorOf(x, "a1"), 1);
        due("firstError: equals", errorOf(x, "a="), 2);
        due("firstError: two equals", errorOf(x, "a=="), 2);
        due("firstError: semicolon behind equals", errorOf(x, "a=;"), 2);
        due("firstError: second begins elsewhere", errorOf(x, "a=c"), 2);
        due("firstError: second path", errorOf(x, "a=b"), 3);
        due("firstError: equals in the second path", errorOf(x, "a=b="), 3);
        due("firstError: cell", errorOf(x, "a=b;"), 4);
        due("firstError: second path too long is no error", errorOf(x, "a=bc"), 4);
        due("firstError: but it does not end", errorOf(x, "a=bc;"), 4);
        due("firstError: ends elsewhere", errorOf(x, "ac=bd;"), 5);
        due("firstError: ends early", errorOf(x, "ac=b;"), 4);
        due("firstError: the same path", errorOf(x, "ac=ac;"), 6);
        due("firstError: arrow told before in a path", errorOf(x, "23;ace=bce;"), 11);
        due("firstError: digit behind a cell", errorOf(x, "a=b0"), 3);
        due("firstError: cell behind a cell", errorOf(x, "a=b;c=c;23"), 10);
        due("firstError: the first one counts", errorOf(x, "a=b;;;;"), 4);
    }

    private void firstErrorOfLimits() {
        ArrowDiagrams x = diagram(2, "01;01;01;01;01;01;01;01;01;01;01;01;01");
        due("firstError: 14th arrow", errorOf(x, "01;n=a"), 6);
        due("firstError: 15th arrow", errorOf(x, "01;01"), 3);
        due("firstError: letter behind the last one", errorOf(x, "01;o"), 3);
        due("firstError: not told yet", errorOf(x, "n=a;01"), 0);
        x.addArrow(0, 1);
        due("firstError: 15th arrow at once", errorOf(x, "01"), 0);
        for (int i = 0; i < 8; i++) {
            x.addCell(2, 3);
        }
        due("firstError: 10th cell", errorOf(x, "a=b;a=c"), 7);
        due("firstError: 11th cell", errorOf(x, "a=b;a=c;a"), 8);
        x.addCell(2, 3);
        x.addCell(2, 3);
        due("firstError: 11th cell at once", errorOf(x, "a"), 0);
        x.dropArrow();
        due("firstError: an arrow at the limit of cells", errorOf(x, "01;"), 3);
    }

    private void load() {
        ArrowDiagrams x = new ArrowDiagrams();
        x.begin(4);
        x.setSize(3, 3);
        write(x, "01;02;13;23;ac=bd;03;e=ac");
        due("load", x.load(), 7);
        due("load: the buffer is cleared", x.clearInput(), 0);
        due("load: arrows", x.count(1), 5);
        due("load: cells", x.count(2), 2);
        due("load: arrow", x.path(7, 0) * 10 + x.path(7, 1), 23);
        due("load: first cell, first path", x.cell(0, 0), number(x, "ac"));
        due("load: first cell, second path", x.cell(0, 1), number(x, "bd"));
        due("load: second cell, first path", x.cell(1, 0), number(x, "e"));
        due("load: second cell, second path", x.cell(1, 1), number(x, "ac"));
        due("load: class", x.path(number(x, "bd"), 3), number(x, "e"));
        due("load: sizes stay", x.setSize(3, 3), 3);
        x.setFunction(4, 5);
        x.dropArrow();
        write(x, "03");
        due("load: one arrow", x.load(), 1);
        due("load: code 0", x.setFunction(4, 0), 0);
        write(x, "ac=ac");
        due("load: one cell", x.load(), 1);
        due("load: behind the others", x.cell(1, 0), number(x, "ac"));
    }

    private void loadRefused() {
        ArrowDiagrams x = diagram(3, "01;12;01");
        for (String wrong : new String[] {"", "0", "01;", "a", "a=", "a=c;", "a=cb", "ab=c", "01 ", "a=b", ";", "02;x"}) {
            x.clearInput();
            write(x, wrong);
            refused("load '" + wrong + "'", x, ARGUMENT, x::load);
        }
        ArrowDiagrams y = new ArrowDiagrams();
        y.begin(6);
        write(y, "01;12;12;12;23;23;23;34;34;34;34;45;45;05");
        refused("load: path 301", y, STATE, y::load);
        due("load: the buffer stays", y.firstError(), 41);
        y.append(';');
        refused("load: path 301, not complete", y, ARGUMENT, y::load);
        y.clearInput();
        write(y, PATHS_300);
        due("load: 300 paths", y.load(), 13);
        due("load: 300 paths", y.count(3), 300);
        write(y, "05");
        refused("load: path 301 by one arrow", y, STATE, y::load);
        y.clearInput();
        write(y, "a=a");
        due("load: a cell among 300 paths", y.load(), 1);
    }

    // ---- promises 11 to 19: paths

    private void find() {
        ArrowDiagrams x = diagram(4, "23;01;12;01");
        due("find: empty", number(x, ""), -1);
        due("find: arrow", number(x, "d"), 7);
        due("find: two arrows", number(x, "bc"), 8);
        due("find: three arrows", number(x, "dca"), 12);
        due("find: not a path", number(x, "cb"), -1);
        due("find: behind a path", number(x, "bc "), -1);
        due("find: no such arrow", number(x, "e"), -1);
        due("find: no such arrow behind", number(x, "be"), -1);
        due("find: twice", number(x, "bb"), -1);
        due("find: cell", number(x, "b=d"), -1);
        due("find: digits", number(x, "01"), -1);
        due("find: too far", number(x, "bcaa"), -1);
        due("find: 60 letters", number(x, "bca".repeat(20)), -1);
        write(x, "bca");
        due("find: the last but one", x.find(), 11);
        due("find: the buffer stays", x.clearInput(), 3);
        x.dropArrow();
        due("find: dropped arrow", number(x, "d"), -1);
    }

    private void path() {
        ArrowDiagrams x = diagram(3, "01;01;12");
        addCell(x, "a", "b");
        int ac = number(x, "ac");
        int bc = number(x, "bc");
        x.setFunction(0, 4);
        x.setFunction(2, 4);
        int[] dueAc = {0, 2, 2, ac, 2, 2, 1};
        int[] dueBc = {0, 2, 2, ac, 2, 1, 0};
        int[] dueEmpty = {1, 1, 0, 1, 1, 2, 1};
        for (int what = 0; what < 7; what++) {
            due("path ac " + what, x.path(ac, what), dueAc[what]);
            due("path bc " + what, x.path(bc, what), dueBc[what]);
            due("path empty " + what, x.path(1, what), dueEmpty[what]);
        }
        refused("path -1", x, INDEX, () -> x.path(-1, 0));
        refused("path 8", x, INDEX, () -> x.path(8, 0));
        refused("path 8, what 7", x, INDEX, () -> x.path(8, 7));
        refused("path HIGH", x, INDEX, () -> x.path(HIGH, 0));
        refused("path: what 7", x, ARGUMENT, () -> x.path(0, 7));
        refused("path: what -1", x, ARGUMENT, () -> x.path(0, -1));
        x.setSize(1, 1);
        due("path: a single element", x.path(ac, 5), 1);
        due("path: given twice", x.path(ac, 6), 0);
        due("path: function of one element", x.path(number(x, "c"), 6), 1);
    }

    private void numbersOfPaths() {
        ArrowDiagrams x = diagram(4, "23;12;01;02");
        String[] inOrder = {"a", "b", "c", "d", "ba", "cb", "da", "cba"};
        for (int i = 0; i < inOrder.length; i++) {
            due("number of " + inOrder[i], number(x, inOrder[i]), 4 + i);
        }
        due("number of an empty path", x.path(3, 0), 3);
        x.addArrow(0, 1);
        due("number after an arrow has come", number(x, "cba"), 13);
        due("number after an arrow has come", number(x, "ea"), -1);
        x.dropArrow();
        due("number after it has gone", number(x, "cba"), 11);
    }

    /** Paths of seven arrows, and a cell of two of them. */
    private void longestPaths() {
        ArrowDiagrams x = diagram(8, "01;12;23;34;45;56;67;67");
        int one = number(x, "abcdefg");
        int other = number(x, "abcdefh");
        due("longest: number", one, x.count(3) - 2);
        due("longest: the other number", other, x.count(3) - 1);
        due("longest: length", x.path(one, 2), 7);
        due("longest: last arrow", x.arrowOf(one, 6), 6);
        due("longest: last arrow of the other", x.arrowOf(other, 6), 7);
        due("longest: not equal", x.distance(one, other), -1);
        write(x, "abcdefg=abcdefh");
        due("longest: load", x.load(), 1);
        due("longest: equal", x.distance(one, other), 1);
        due("longest: the parts are not equal", x.distance(number(x, "bcdefg"), number(x, "bcdefh")), -1);
        due("longest: cell", x.cell(0, 1), other);
        x.setFunction(7, 5);
        due("longest: apply", x.apply(other, 1), 1);
        due("longest: does not hold", x.cell(0, 4), 0);
        x.addArrow(0, 1);
        due("longest: another arrow", x.cell(0, 0), number(x, "abcdefg"));
        due("longest: drop it", x.dropArrow(), 0);
        due("longest: drop the last arrow of the cell", x.dropArrow(), 1);
    }

    /** Each question is asked right behind a change, with no other one between. */
    private void askedAtOnce() {
        for (int question = 0; question < 10; question++) {
            ArrowDiagrams x = diagram(3, "01;01;12");
            x.addCell(3, 4);
            due("at once: before " + question, ask(x, question), new int[] {3, 2, 1, 1, 0, 0, 1, 1, 3, -1}[question]);
            x.addCell(3, 4);
            due("at once: a cell more " + question, ask(x, question), new int[] {3, 2, 1, 1, 1, 0, 1, 1, 3, -1}[question]);
            x.dropCell(1);
            x.dropCell(0);
            x.addCell(6, 7);
            due("at once: another cell " + question, ask(x, question), new int[] {4, 1, 2, -1, 0, -2, 1, 1, 2, 4}[question]);
        }
    }

    private static int ask(ArrowDiagrams x, int question) {
        switch (question) {
            case 0: return x.path(4, 3);
            case 1: return x.path(4, 4);
            case 2: return x.between(0, 1, true);
            case 3: return x.distance(3, 4);
            case 4: return x.cell(0, 2);
            case 5: return Checks.outcome(() -> x.proof(4, 3, 0, 1)) instanceof Integer ? x.proof(4, 3, 0, 1) : -2;
            case 6: return x.cell(0, 3);
            case 7: return x.count(7);
            case 8: return (int) (3 * x.commuting());
            default: return x.separate(3, 4);
        }
    }

    private void arrowOf() {
        ArrowDiagrams x = diagram(4, "23;12;01");
        int path = number(x, "cba");
        due("arrowOf 0", x.arrowOf(path, 0), 2);
        due("arrowOf 1", x.arrowOf(path, 1), 1);
        due("arrowOf 2", x.arrowOf(path, 2), 0);
        refused("arrowOf 3", x, INDEX, () -> x.arrowOf(path, 3));
        refused("arrowOf -1", x, INDEX, () -> x.arrowOf(path, -1));
        refused("arrowOf an empty path", x, INDEX, () -> x.arrowOf(0, 0));
        refused("arrowOf no path", x, INDEX, () -> x.arrowOf(path + 1, 0));
        refused("arrowOf path -1", x, INDEX, () -> x.arrowOf(-1, 0));
    }

    private void between() {
        ArrowDiagrams x = diagram(4, "01;01;12;12;02");
        due("between: paths", x.between(0, 2, false), 5);
        due("between: classes", x.between(0, 2, true), 5);
        addCell(x, "a", "b");
        due("between: classes with a cell", x.between(0, 2, true), 3);
        due("between: paths with a cell", x.between(0, 2, false), 5);
        due("between: one class", x.between(0, 1, true), 1);
        due("between: the same object", x.between(1, 1, false), 1);
        due("between: the same object, classes", x.between(1, 1, true), 1);
        due("between: back", x.between(2, 0, false), 0);
        due("between: none", x.between(0, 3, true), 0);
        refused("between -1", x, INDEX, () -> x.between(-1, 0, true));
        refused("between 4", x, INDEX, () -> x.between(0, 4, false));
        refused("between HIGH", x, INDEX, () -> x.between(HIGH, LOW, false));
    }

    /** a, b, c lead from 0 to 1, d, e, f from 1 to 2, with a = b, b = c, d = e, e = f: a grid of 3 times 3. */
    private static ArrowDiagrams grid() {
        ArrowDiagrams x = diagram(4, "01;01;01;12;12;12");
        addCell(x, "a", "b");
        addCell(x, "b", "c");
        addCell(x, "d", "e");
        addCell(x, "e", "f");
        return x;
    }

    private void distance() {
        ArrowDiagrams x = grid();
        int ad = number(x, "ad");
        due("distance to itself", x.distance(ad, ad), 0);
        due("distance ae", x.distance(ad, number(x, "ae")), 1);
        due("distance be", x.distance(ad, number(x, "be")), 2);
        due("distance cf", x.distance(ad, number(x, "cf")), 4);
        due("distance back", x.distance(number(x, "cf"), ad), 4);
        due("distance: not parallel", x.distance(ad, 4), -1);
        due("distance of empty paths", x.distance(2, 2), 0);
        addCell(x, "ad", "cf");
        due("distance: a short way", x.distance(ad, number(x, "cf")), 1);
        due("distance: by the short way", x.distance(ad, number(x, "ce")), 2);
        x.dropCell(4);
        x.dropCell(1);
        due("distance: not equal", x.distance(ad, number(x, "cf")), -1);
        refused("distance -1", x, INDEX, () -> x.distance(-1, 0));
        refused("distance too large", x, INDEX, () -> x.distance(0, x.count(3)));
    }

    private void proof() {
        ArrowDiagrams x = grid();
        int ad = number(x, "ad");
        int cf = number(x, "cf");
        String[] down = {"ae", "af", "bf", "cf"};
        int[] downBy = {2, 3, 0, 1};
        String[] up = {"bf", "af", "ae", "ad"};
        int[] upBy = {1, 0, 3, 2};
        for (int i = 0; i < 4; i++) {
            due("proof down " + i, x.proof(ad, cf, i, 0), number(x, down[i]));
            due("proof down by " + i, x.proof(ad, cf, i, 1), downBy[i]);
            due("proof up " + i, x.proof(cf, ad, i, 0), number(x, up[i]));
            due("proof up by " + i, x.proof(cf, ad, i, 1), upBy[i]);
        }
        refused("proof: step 4", x, STATE, () -> x.proof(ad, cf, 4, 0));
        refused("proof: step -1", x, STATE, () -> x.proof(ad, cf, -1, 0));
        refused("proof: not equal", x, STATE, () -> x.proof(ad, 4, 0, 0));
        refused("proof: not equal, step -1", x, STATE, () -> x.proof(ad, 4, -1, 0));
        refused("proof: the same path", x, STATE, () -> x.proof(ad, ad, 0, 0));
        refused("proof: what 2", x, ARGUMENT, () -> x.proof(ad, cf, 9, 2));
        refused("proof: what -1", x, ARGUMENT, () -> x.proof(ad, cf, 0, -1));
        refused("proof: no path", x, INDEX, () -> x.proof(-1, cf, 0, 2));
        refused("proof: no second path", x, INDEX, () -> x.proof(ad, x.count(3), 0, 2));
        x.dropCell(0);
        addCell(x, "ad", "bd");
        addCell(x, "b", "a");
        due("proof: the lowest cell of a step", x.proof(ad, number(x, "bd"), 0, 1), 3);
    }

    private void cell() {
        ArrowDiagrams x = diagram(3, "01;01;01;12");
        addCell(x, "a", "b");
        addCell(x, "bd", "ad");
        addCell(x, "c", "c");
        due("cell: first", x.cell(1, 0), number(x, "bd"));
        due("cell: second", x.cell(1, 1), number(x, "ad"));
        due("cell: not redundant", x.cell(0, 2), 0);
        due("cell: redundant", x.cell(1, 2), 1);
        due("cell: redundant by itself", x.cell(2, 2), 1);
        due("cell: core", x.cell(0, 3), 1);
        due("cell: not core", x.cell(1, 3), 0);
        due("cell: holds", x.cell(0, 4), 1);
        x.setFunction(0, 5);
        due("cell: does not hold", x.cell(0, 4), 0);
        due("cell: holds by a constant", x.cell(1, 4), 1);
        x.setFunction(3, 4);
        due("cell: does not hold any more", x.cell(1, 4), 0);
        refused("cell 3", x, INDEX, () -> x.cell(3, 0));
        refused("cell -1", x, INDEX, () -> x.cell(-1, 9));
        refused("cell: what 5", x, ARGUMENT, () -> x.cell(0, 5));
        refused("cell: what -1", x, ARGUMENT, () -> x.cell(0, -1));
    }

    /** Three cells, each of which follows from the other two: the last one leaves the core. */
    private void core() {
        ArrowDiagrams x = diagram(2, "01;01;01");
        addCell(x, "a", "b");
        addCell(x, "b", "c");
        addCell(x, "c", "a");
        for (int cell = 0; cell < 3; cell++) {
            due("core: redundant " + cell, x.cell(cell, 2), 1);
            due("core: " + cell, x.cell(cell, 3), cell < 2 ? 1 : 0);
        }
        due("core: size", x.count(7), 2);
        addCell(x, "b", "a");
        due("core: the doubles", x.cell(0, 3), 1);
        due("core: the doubles", x.cell(3, 3), 0);
        x.dropCell(1);
        due("core: after a change", x.cell(1, 3), 1);
        due("core: after a change", x.count(7), 2);
    }

    private void count() {
        ArrowDiagrams x = grid();
        addCell(x, "ad", "cf");
        x.setFunction(0, 1);
        int[] counts = {4, 6, 5, 4 + 6 + 9, 4 + 1 + 1 + 1, 3, 4, 4};
        for (int what = 0; what < counts.length; what++) {
            due("count " + what, x.count(what), counts[what]);
        }
        x.setFunction(3, 4);
        due("count: fewer cells hold", x.count(6), 2);
        refused("count 8", x, ARGUMENT, () -> x.count(8));
        refused("count -1", x, ARGUMENT, () -> x.count(-1));
        refused("count LOW", x, ARGUMENT, () -> x.count(LOW));
    }

    private void commuting() {
        ArrowDiagrams x = new ArrowDiagrams();
        x.begin(4);
        checks.due("commuting: no pairs", x.commuting(), 1.0);
        x.addArrow(0, 1);
        checks.due("commuting: one pair", x.commuting(), 1.0);
        x.addArrow(0, 1);
        checks.due("commuting: none of one", x.commuting(), 0.0);
        x.addArrow(2, 3);
        checks.due("commuting: one of two", x.commuting(), 0.5);
        x.addArrow(1, 2);
        checks.due("commuting: two and a half", x.commuting(), 3.0 / 6.0);
        x.addArrow(1, 3);
        checks.due("commuting: two of six", x.commuting(), 2.0 / 6.0);
        addCell(x, "dc", "e");
        checks.due("commuting: three of six", x.commuting(), 3.0 / 6.0);
        addCell(x, "a", "b");
        checks.due("commuting: all", x.commuting(), 1.0);
    }

    // ---- promises 20 to 28: functions

    private void setSize() {
        ArrowDiagrams x = diagram(3, "01;12;02");
        x.setFunction(0, 4);
        x.setFunction(1, 1);
        x.setFunction(2, 5);
        due("setSize", x.setSize(1, 4), 2);
        due("setSize: function to it", x.setFunction(0, 0), 0);
        due("setSize: function from it", x.setFunction(1, 0), 0);
        due("setSize: another function", x.setFunction(2, 5), 5);
        due("setSize: the same size", x.setSize(2, 2), 2);
        due("setSize: the same size clears too", x.setFunction(2, 5), 0);
        due("setSize 1", x.setSize(1, 1), 4);
        refused("setSize 0", x, ARGUMENT, () -> x.setSize(1, 0));
        refused("setSize 5", x, ARGUMENT, () -> x.setSize(1, 5));
        refused("setSize -1", x, ARGUMENT, () -> x.setSize(0, LOW));
        refused("setSize of 3", x, INDEX, () -> x.setSize(3, 2));
        refused("setSize of 3, to 5", x, INDEX, () -> x.setSize(3, 5));
        refused("setSize of -1", x, INDEX, () -> x.setSize(-1, 2));
    }

    private void setFunction() {
        ArrowDiagrams x = diagram(3, "01;12");
        x.setSize(1, 3);
        x.setSize(2, 4);
        due("setFunction", x.setFunction(0, 2 + 4 * 2), 0);
        due("setFunction again", x.setFunction(0, 1), 10);
        due("setFunction: three elements", x.setFunction(1, 3 + 4 * 3 + 16 * 3), 0);
        refused("setFunction: value 3 of 3", x, ARGUMENT, () -> x.setFunction(0, 3));
        refused("setFunction: second value 3 of 3", x, ARGUMENT, () -> x.setFunction(0, 12));
        refused("setFunction: value of no element", x, ARGUMENT, () -> x.setFunction(0, 16));
        refused("setFunction: value of no element", x, ARGUMENT, () -> x.setFunction(1, 64));
        refused("setFunction -1", x, ARGUMENT, () -> x.setFunction(1, -1));
        refused("setFunction LOW", x, ARGUMENT, () -> x.setFunction(1, LOW));
        refused("setFunction HIGH", x, ARGUMENT, () -> x.setFunction(1, HIGH));
        refused("setFunction: no arrow", x, INDEX, () -> x.setFunction(2, 0));
        refused("setFunction: no arrow, no code", x, INDEX, () -> x.setFunction(-1, -1));
        x.setSize(1, 4);
        due("setFunction 255", x.setFunction(1, 255), 0);
        refused("setFunction 256", x, ARGUMENT, () -> x.setFunction(1, 256));
        due("setFunction: back", x.setFunction(1, 0), 255);
        x.setSize(1, 1);
        due("setFunction: to one element", x.setFunction(0, 0), 0);
        refused("setFunction: to one element", x, ARGUMENT, () -> x.setFunction(0, 1));
        due("setFunction: from one element", x.setFunction(1, 3), 0);
    }

    private void apply() {
        ArrowDiagrams x = diagram(3, "01;12");
        x.setSize(0, 4);
        x.setSize(1, 3);
        x.setSize(2, 4);
        x.setFunction(0, 2 + 4 * 0 + 16 * 1 + 64 * 2);
        x.setFunction(1, 3 + 4 * 1 + 16 * 2);
        int[] values = {2, 3, 1, 2};
        int path = number(x, "ab");
        for (int element = 0; element < 4; element++) {
            due("apply " + element, x.apply(path, element), values[element]);
            due("apply an empty path " + element, x.apply(0, element), element);
        }
        due("apply an arrow", x.apply(4, 1), 1);
        refused("apply to 4", x, ARGUMENT, () -> x.apply(path, 4));
        refused("apply to -1", x, ARGUMENT, () -> x.apply(path, -1));
        refused("apply to 3 of 3", x, ARGUMENT, () -> x.apply(4, 3));
        refused("apply no path", x, INDEX, () -> x.apply(path + 1, 9));
        refused("apply path -1", x, INDEX, () -> x.apply(-1, 0));
    }

    private void imageShare() {
        ArrowDiagrams x = diagram(2, "01");
        for (int size = 1; size <= 4; size++) {
            x.setSize(0, 4);
            x.setSize(1, size);
            int code = 0;
            for (int image = 1; image <= size; image++) {
                code += (image - 1) << 2 * (image - 1);
                x.setFunction(0, code);
                due("imageShare " + image + " of " + size, x.imageShare(2), Float.floatToIntBits((float) image / size));
            }
            due("imageShare of an empty path", x.imageShare(1), 0x3f800000);
        }
        x.setFunction(0, 0);
        due("imageShare: a quarter", x.imageShare(2), 0x3e800000);
        refused("imageShare 3", x, INDEX, () -> x.imageShare(3));
        refused("imageShare -1", x, INDEX, () -> x.imageShare(-1));
    }

    private void separate() {
        ArrowDiagrams x = diagram(3, "01;01;12");
        x.setSize(0, 3);
        x.setSize(2, 4);
        x.setFunction(2, 2);
        long before = x.digest();
        due("separate a path from itself", x.separate(3, 3), -1);
        due("separate: nothing is changed", x.digest(), before);
        int ac = number(x, "ac");
        int bc = number(x, "bc");
        // a keeps 0, b has 1 (0 to 1, 1 to 0), c has 1 (0 to 1, 1 to 0)
        due("separate", x.separate(ac, bc), 1 * 4 + 1);
        due("separate: code of a", x.setFunction(0, 0), 0);
        due("separate: code of b", x.setFunction(1, 1), 1);
        due("separate: code of c", x.setFunction(2, 1), 1);
        due("separate: size of 0", x.setSize(0, 2), 2);
        due("separate: size of 2", x.setSize(2, 2), 2);
        due("separate again, from all codes 0 on", x.separate(ac, bc), 5);
        addCell(x, "ac", "bc");
        due("separate: equal paths", x.separate(bc, ac), -1);
        due("separate what is behind a cell", x.separate(3, 4), 1 * 4);

        ArrowDiagrams y = diagram(2, "01;01;01;01;01;01");
        addCell(y, "a", "b");
        addCell(y, "b", "c");
        due("separate: the last arrow changes first", y.separate(6, 7), 1);
        due("separate: some before it", y.separate(4, 5), 4 * 4);
        due("separate by all of a, b and c", y.separate(2, 5), 4 * 4);
        due("separate: empty paths", y.separate(1, 1), -1);

        // a gives 0 alone, so that b and c differ behind another element: c has 4 (0 to 0, 1 to 1)
        ArrowDiagrams z = diagram(3, "01;12;12");
        addCell(z, "ab", "ac");
        due("separate: code 4 comes third", z.separate(number(z, "b"), number(z, "c")), 2);
        due("separate: code 4", z.setFunction(2, 4), 4);
    }

    private void separateRefused() {
        ArrowDiagrams x = diagram(3, "01;01;12;12;02;02;02");
        refused("separate: 7 arrows", x, STATE, () -> x.separate(3, 4));
        refused("separate: 7 arrows, the same path", x, STATE, () -> x.separate(3, 3));
        refused("separate: 7 arrows, not parallel", x, ARGUMENT, () -> x.separate(3, 5));
        refused("separate: 7 arrows, no path", x, INDEX, () -> x.separate(3, x.count(3)));
        refused("separate: path -1", x, INDEX, () -> x.separate(-1, 3));
        x.dropArrow();
        due("separate: 6 arrows", x.separate(3, 4), 256);
        refused("separate: not parallel", x, ARGUMENT, () -> x.separate(0, 1));
        ArrowDiagrams y = new ArrowDiagrams();
        due("separate: no arrows", y.separate(0, 0), -1);
        refused("separate: no arrows, not parallel", y, ARGUMENT, () -> y.separate(0, 1));
    }

    private void isProduct() {
        ArrowDiagrams x = diagram(4, "01;02;13;02");
        x.setSize(0, 4);
        x.setFunction(0, 0 + 4 * 0 + 16 * 1 + 64 * 1);
        x.setFunction(1, 0 + 4 * 1 + 16 * 0 + 64 * 1);
        due("isProduct", x.isProduct(0, 1), true);
        due("isProduct: the other way", x.isProduct(1, 0), true);
        x.setFunction(1, 0 + 4 * 1 + 16 * 1 + 64 * 1);
        due("isProduct: one is missing", x.isProduct(0, 1), false);
        x.setSize(2, 1);
        due("isProduct: some twice", x.isProduct(0, 1), false);
        x.setSize(0, 2);
        x.setFunction(0, 1);
        due("isProduct with a single element", x.isProduct(0, 1), true);
        refused("isProduct: both the same", x, ARGUMENT, () -> x.isProduct(0, 0));
        refused("isProduct: not from the same", x, ARGUMENT, () -> x.isProduct(0, 2));
        refused("isProduct: no arrow", x, INDEX, () -> x.isProduct(4, 4));
        refused("isProduct: no second arrow", x, INDEX, () -> x.isProduct(0, -1));
    }

    private void isPullback() {
        // a: 0 to 1, b: 1 to 3, c: 0 to 2, d: 2 to 3
        ArrowDiagrams x = diagram(4, "01;13;02;23");
        due("isPullback: constants", x.isPullback(0, 1, 2, 3), false);
        x.setSize(0, 4);
        x.setFunction(0, 0 + 4 * 0 + 16 * 1 + 64 * 1);
        x.setFunction(2, 0 + 4 * 1 + 16 * 0 + 64 * 1);
        due("isPullback: all pairs", x.isPullback(0, 1, 2, 3), true);
        due("isPullback: the other way", x.isPullback(2, 3, 0, 1), true);
        x.setFunction(1, 4);
        due("isPullback: not the same function", x.isPullback(0, 1, 2, 3), false);
        x.setSize(0, 2);
        x.setFunction(0, 4);
        x.setFunction(2, 4);
        x.setFunction(3, 4);
        due("isPullback: diagonal", x.isPullback(0, 1, 2, 3), true);
        x.setFunction(1, 0);
        x.setFunction(3, 0);
        due("isPullback: pairs are missing", x.isPullback(0, 1, 2, 3), false);
        due("isPullback: p is q", x.isPullback(0, 1, 0, 1), false);
        x.setFunction(1, 1);
        due("isPullback: p is q, f gives none twice", x.isPullback(0, 1, 0, 1), true);
        refused("isPullback: f elsewhere", x, ARGUMENT, () -> x.isPullback(0, 3, 2, 3));
        refused("isPullback: q elsewhere", x, ARGUMENT, () -> x.isPullback(0, 1, 3, 3));
        refused("isPullback: g elsewhere", x, ARGUMENT, () -> x.isPullback(0, 1, 2, 1));
        refused("isPullback: no arrow", x, INDEX, () -> x.isPullback(0, 3, 2, 4));
        refused("isPullback: no p", x, INDEX, () -> x.isPullback(-1, 1, 2, 3));
        refused("isPullback: no f", x, INDEX, () -> x.isPullback(0, 4, 2, 3));
        refused("isPullback: no q", x, INDEX, () -> x.isPullback(0, 1, HIGH, 3));
        ArrowDiagrams y = diagram(5, "01;13;02;24");
        refused("isPullback: g leads elsewhere", y, ARGUMENT, () -> y.isPullback(0, 1, 2, 3));
    }

    private void isEqualizer() {
        // a: 0 to 1, b and c: 1 to 2, d: 1 to 3
        ArrowDiagrams x = diagram(4, "01;12;12;13");
        x.setSize(1, 3);
        x.setFunction(0, 0 + 4 * 2);
        x.setFunction(1, 0 + 4 * 1 + 16 * 1);
        x.setFunction(2, 0 + 4 * 0 + 16 * 1);
        due("isEqualizer", x.isEqualizer(0, 1, 2), true);
        due("isEqualizer: the other way", x.isEqualizer(0, 2, 1), true);
        due("isEqualizer of one arrow", x.isEqualizer(0, 1, 1), false);
        x.setFunction(0, 0);
        due("isEqualizer: one is missing, one twice", x.isEqualizer(0, 1, 2), false);
        x.setFunction(0, 0 + 4 * 1);
        due("isEqualizer: not the same function", x.isEqualizer(0, 1, 2), false);
        x.setSize(0, 3);
        x.setFunction(0, 0 + 4 * 2 + 16 * 1);
        due("isEqualizer of one arrow, all elements", x.isEqualizer(0, 3, 3), true);
        refused("isEqualizer: not parallel", x, ARGUMENT, () -> x.isEqualizer(0, 1, 3));
        refused("isEqualizer: f elsewhere", x, ARGUMENT, () -> x.isEqualizer(1, 0, 0));
        refused("isEqualizer: g elsewhere", x, ARGUMENT, () -> x.isEqualizer(0, 1, 0));
        refused("isEqualizer: no e", x, INDEX, () -> x.isEqualizer(-1, 1, 2));
        refused("isEqualizer: no f", x, INDEX, () -> x.isEqualizer(0, 4, 2));
        refused("isEqualizer: no g", x, INDEX, () -> x.isEqualizer(1, 1, 4));
    }

    private void digest() {
        ArrowDiagrams x = new ArrowDiagrams();
        long one = Double.doubleToLongBits(1.0);
        due("digest: new", x.digest(), fold(2, 0, 0, 2, 2, 0, 0, 0, 2, 2, 0, 0, 0, 2, 1, 1, 1, 2, one, 0));
        x.addArrow(0, 1);
        x.addArrow(0, 1);
        x.addCell(3, 2);
        x.setSize(0, 3);
        x.setFunction(1, 4);
        write(x, "a ");
        due("digest", x.digest(), fold(2, 2, 1, 4, 3, 1, 0, 1, 3, 2, 0, 1, 0, 0, 1, 4, 3, 2, 0, 1, 0,
                0, 0, 0, 3, 1, 1, 1, 2, 0, 1, 2, 1, 0, 1, 2, 2, one, 2, 'a', ' '));
        x.dropCell(0);
        due("digest: nothing commutes", x.digest(), fold(2, 2, 0, 4, 4, 0, 0, 0, 3, 2, 0, 1, 0, 0, 1, 4,
                0, 0, 0, 3, 1, 1, 1, 2, 0, 1, 2, 1, 0, 1, 3, 2, Double.doubleToLongBits(0.0), 2, 'a', ' '));
        ArrowDiagrams y = diagram(3, "01;01;12");
        due("digest: a third commutes", y.digest(), fold(3, 3, 0, 8, 8, 1, 0, 0, 2, 2, 2, 0, 1, 0, 0, 1, 0, 1, 2, 0,
                0, 0, 0, 2, 1, 1, 1, 2, 2, 2, 2, 2, 0, 1, 3, 1, 0, 1, 4, 1, 1, 2, 5, 1, 0, 2, 6, 1, 0, 2, 7, 1,
                Double.doubleToLongBits(1.0 / 3.0), 0));
        due("digest: it changes nothing", y.digest(), y.digest());
    }
}
