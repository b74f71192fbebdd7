/**
 * Diagrams of arrows with stated equalities of paths (cells), the equalities that follow from
 * them, and functions on small finite sets along the arrows.
 *
 * Every array stands behind Row or Grid, which look at each index before they use it, and all of
 * them are made in the constructor, so that no later call needs room.
 */
public final class ArrowDiagrams {
    public static final int NONE = -1;

    private static final int MIN_OBJECTS = 2;
    private static final int MAX_OBJECTS = 8;
    private static final int MAX_ARROWS = 14;
    private static final int MAX_PATHS = 300;
    private static final int MAX_CELLS = 10;
    private static final int MAX_SIZE = 4;
    private static final int FIRST_SIZE = 2;
    private static final int MAX_INPUT = 60;
    private static final int MAX_SEPARATED_ARROWS = 6;

    /** An arrow leads to a greater object, so a path has fewer arrows than there are objects. */
    private static final int MAX_LENGTH = MAX_OBJECTS - 1;

    private final Graph graph = new Graph();
    private final Cells cells = new Cells();
    private final Paths paths = new Paths();
    private final Pasting pasting = new Pasting();
    private final Functions functions = new Functions();
    private final Functions trial = new Functions();
    private final Input input = new Input();
    private final Reader reader = new Reader();

    public ArrowDiagrams() {
        graph.clear(MIN_OBJECTS);
        functions.clear();
        graphChanged();
    }

    // ---- diagrams

    public int begin(int objects) throws IllegalArgumentException {
        if (objects < MIN_OBJECTS || objects > MAX_OBJECTS) {
            throw new IllegalArgumentException("objects is out of range");
        }
        int previous = graph.objectTotal();
        graph.clear(objects);
        cells.clear();
        functions.clear();
        graphChanged();
        return previous;
    }

    public int addArrow(int from, int to)
            throws IndexOutOfBoundsException, IllegalArgumentException, IllegalStateException {
        requireObject(from);
        requireObject(to);
        if (to <= from) {
            throw new IllegalArgumentException("to is not greater than from");
        }
        if (graph.arrowTotal() >= MAX_ARROWS) {
            throw new IllegalStateException("there are 14 arrows");
        }
        if (graph.pathTotal() + graph.pathsThrough(from, to) > MAX_PATHS) {
            throw new IllegalStateException("there would be more than 300 paths");
        }
        int arrow = graph.join(from, to);
        functions.setCode(arrow, 0);
        graphChanged();
        return arrow;
    }

    public int dropArrow() throws IllegalStateException {
        if (graph.arrowTotal() == 0) {
            throw new IllegalStateException("there are no arrows");
        }
        int removed = cells.removeAllWith(graph.arrowTotal() - 1);
        graph.dropLast();
        graphChanged();
        return removed;
    }

    public int addCell(int first, int second)
            throws IndexOutOfBoundsException, IllegalArgumentException, IllegalStateException {
        requireParallel(first, second);
        if (cells.total() >= MAX_CELLS) {
            throw new IllegalStateException("there are 10 cells");
        }
        int added = cells.open(paths.start.get(first));
        lengthenBy(0, first);
        lengthenBy(1, second);
        cellsChanged();
        return added;
    }

    public int dropCell(int cell) throws IndexOutOfBoundsException {
        requireCell(cell);
        cells.remove(cell);
        cellsChanged();
        return cells.total();
    }

    public int append(int code) throws IllegalArgumentException, IllegalStateException {
        if (code < 32 || code > 126) {
            throw new IllegalArgumentException("code is not 32 to 126");
        }
        if (input.length() >= MAX_INPUT) {
            throw new IllegalStateException("the buffer has 60 characters");
        }
        input.put(code);
        return input.length();
    }

    public int clearInput() {
        int previous = input.length();
        input.clear();
        return previous;
    }

    public int firstError() {
        return reader.read(input, graph, cells);
    }

    public int load() throws IllegalArgumentException, IllegalStateException {
        if (reader.read(input, graph, cells) < input.length() || !reader.isComplete()) {
            throw new IllegalArgumentException("the buffer is not a complete text");
        }
        if (reader.graphRead().pathTotal() > MAX_PATHS) {
            throw new IllegalStateException("there would be more than 300 paths");
        }
        int arrowsBefore = graph.arrowTotal();
        int itemsBefore = arrowsBefore + cells.total();
        graph.become(reader.graphRead());
        cells.become(reader.cellsRead());
        for (int arrow = arrowsBefore; arrow < graph.arrowTotal(); arrow++) {
            functions.setCode(arrow, 0);
        }
        input.clear();
        graphChanged();
        return graph.arrowTotal() + cells.total() - itemsBefore;
    }

    // ---- paths

    public int find() {
        int found = graph.from(input.arrowAt(0));
        for (int i = 0; i < input.length(); i++) {
            found = paths.longer.get(found, input.arrowAt(i));
        }
        return found;
    }

    public int path(int path, int what) throws IndexOutOfBoundsException, IllegalArgumentException {
        requirePath(path);
        switch (what) {
            case 0:
                return paths.start.get(path);
            case 1:
                return paths.end.get(path);
            case 2:
                return paths.length.get(path);
            case 3:
                pasting.refresh(paths, cells);
                return pasting.className(path);
            case 4:
                pasting.refresh(paths, cells);
                return pasting.classSize(path);
            case 5:
                return functions.imageSize(paths, path);
            case 6:
                return functions.imageSize(paths, path) == functions.size(paths.start.get(path)) ? 1 : 0;
            default:
                throw new IllegalArgumentException("what is not 0 to 6");
        }
    }

    public int arrowOf(int path, int index) throws IndexOutOfBoundsException {
        requirePath(path);
        if (index < 0 || index >= paths.length.get(path)) {
            throw new IndexOutOfBoundsException("there is no such arrow");
        }
        return paths.arrow.get(path, index);
    }

    public int between(int from, int to, boolean classes) throws IndexOutOfBoundsException {
        requireObject(from);
        requireObject(to);
        if (!classes) {
            return pathsFromTo(from, to);
        }
        pasting.refresh(paths, cells);
        return pasting.classesBetween(from, to);
    }

    public int distance(int first, int second) throws IndexOutOfBoundsException {
        requirePath(first);
        requirePath(second);
        return stepsTo(second, first);
    }

    public int proof(int first, int second, int index, int what)
            throws IndexOutOfBoundsException, IllegalArgumentException, IllegalStateException {
        requirePath(first);
        requirePath(second);
        if (what != 0 && what != 1) {
            throw new IllegalArgumentException("what is not 0 or 1");
        }
        // NONE is below each index from 0 on, so paths that are not equal have no step here
        if (index < 0 || index >= stepsTo(second, first)) {
            throw new IllegalStateException("the proof has no such step");
        }
        int from = first;
        for (int i = 0; i < index; i++) {
            from = pasting.nextInProof(from);
        }
        int next = pasting.nextInProof(from);
        return what == 0 ? next : pasting.cellOfStep(from, next);
    }

    public int cell(int cell, int what) throws IndexOutOfBoundsException, IllegalArgumentException {
        requireCell(cell);
        switch (what) {
            case 0:
                return cells.pathOf(cell, 0);
            case 1:
                return cells.pathOf(cell, 1);
            case 2:
                pasting.refresh(paths, cells);
                return pasting.isRedundant(cells, cell) ? 1 : 0;
            case 3:
                pasting.refresh(paths, cells);
                pasting.refreshCore(cells);
                return pasting.isInCore(cell) ? 1 : 0;
            case 4:
                return holds(functions, cell) ? 1 : 0;
            default:
                throw new IllegalArgumentException("what is not 0 to 4");
        }
    }

    public int count(int what) throws IllegalArgumentException {
        switch (what) {
            case 0:
                return graph.objectTotal();
            case 1:
                return graph.arrowTotal();
            case 2:
                return cells.total();
            case 3:
                return paths.total();
            case 4:
                pasting.refresh(paths, cells);
                return pasting.classTotal();
            case 5:
                pasting.refresh(paths, cells);
                return pairsWithAtMost(1);
            case 6:
                return holdingCells();
            case 7:
                pasting.refresh(paths, cells);
                pasting.refreshCore(cells);
                return pasting.coreSize();
            default:
                throw new IllegalArgumentException("what is not 0 to 7");
        }
    }

    public double commuting() {
        pasting.refresh(paths, cells);
        int pairs = pairsWithAtMost(MAX_PATHS);
        return pairs > 0 ? (double) pairsWithAtMost(1) / (double) pairs : 1.0;
    }

    // ---- functions

    public int setSize(int object, int size) throws IndexOutOfBoundsException, IllegalArgumentException {
        requireObject(object);
        if (size < 1 || size > MAX_SIZE) {
            throw new IllegalArgumentException("size is out of range");
        }
        int previous = functions.size(object);
        functions.resize(object, size);
        for (int arrow = 0; arrow < graph.arrowTotal(); arrow++) {
            if (graph.from(arrow) == object || graph.to(arrow) == object) {
                functions.setCode(arrow, 0);
            }
        }
        return previous;
    }

    public int setFunction(int arrow, int code) throws IndexOutOfBoundsException, IllegalArgumentException {
        requireArrow(arrow);
        if (!Functions.isCode(code, functions.size(graph.from(arrow)), functions.size(graph.to(arrow)))) {
            throw new IllegalArgumentException("code is the code of no such function");
        }
        int previous = functions.code(arrow);
        functions.setCode(arrow, code);
        return previous;
    }

    public int apply(int path, int element) throws IndexOutOfBoundsException, IllegalArgumentException {
        requirePath(path);
        if (element < 0 || element >= functions.size(paths.start.get(path))) {
            throw new IllegalArgumentException("there is no such element");
        }
        return functions.valueAlong(paths, path, element);
    }

    public int imageShare(int path) throws IndexOutOfBoundsException {
        requirePath(path);
        int size = functions.size(paths.end.get(path));
        return size > 0 ? floatBits((float) functions.imageSize(paths, path) / (float) size) : 0;
    }

    public int separate(int first, int second)
            throws IndexOutOfBoundsException, IllegalArgumentException, IllegalStateException {
        requireParallel(first, second);
        if (graph.arrowTotal() > MAX_SEPARATED_ARROWS) {
            throw new IllegalStateException("there are more than 6 arrows");
        }
        // Equal paths have the same function wherever all cells hold: no choice need be tried.
        pasting.refresh(paths, cells);
        if (pasting.className(first) == pasting.className(second)) {
            return NONE;
        }
        trial.clear();
        int choices = 1 << (2 * graph.arrowTotal());
        for (int choice = 0; choice < choices; choice++) {
            trial.choose(choice, graph.arrowTotal());
            if (!trial.agree(paths, first, second) && allHold(trial)) {
                functions.become(trial);
                return choice;
            }
        }
        return NONE;
    }

    public boolean isProduct(int p, int q) throws IndexOutOfBoundsException, IllegalArgumentException {
        requireArrow(p);
        requireArrow(q);
        if (p == q || graph.from(p) != graph.from(q)) {
            throw new IllegalArgumentException("they are not two arrows from the same object");
        }
        for (int x = 0; x < sizeAtEnd(p); x++) {
            for (int y = 0; y < sizeAtEnd(q); y++) {
                if (sources(p, x, q, y) != 1) {
                    return false;
                }
            }
        }
        return true;
    }

    public boolean isPullback(int p, int f, int q, int g)
            throws IndexOutOfBoundsException, IllegalArgumentException {
        requireArrow(p);
        requireArrow(f);
        requireArrow(q);
        requireArrow(g);
        if (!isSquare(p, f, q, g)) {
            throw new IllegalArgumentException("they do not make such a square");
        }
        if (!sameBehind(p, f, q, g)) {
            return false;
        }
        for (int x = 0; x < sizeAtEnd(p); x++) {
            for (int y = 0; y < sizeAtEnd(q); y++) {
                if (functions.value(f, x) == functions.value(g, y) && sources(p, x, q, y) != 1) {
                    return false;
                }
            }
        }
        return true;
    }

    public boolean isEqualizer(int e, int f, int g)
            throws IndexOutOfBoundsException, IllegalArgumentException {
        requireArrow(e);
        requireArrow(f);
        requireArrow(g);
        // e followed by two arrows to the same object is a square with e twice
        if (!isSquare(e, f, e, g)) {
            throw new IllegalArgumentException("they do not lead like that");
        }
        if (!sameBehind(e, f, e, g)) {
            return false;
        }
        for (int x = 0; x < sizeAtEnd(e); x++) {
            if (functions.value(f, x) == functions.value(g, x) && sources(e, x, e, x) != 1) {
                return false;
            }
        }
        return true;
    }

    public long digest() {
        long hash = 1987;
        for (int what = 0; what <= 7; what++) {
            hash = 31 * hash + count(what);
        }
        for (int object = 0; object < graph.objectTotal(); object++) {
            hash = 31 * hash + functions.size(object);
        }
        for (int arrow = 0; arrow < graph.arrowTotal(); arrow++) {
            hash = 31 * hash + graph.from(arrow);
            hash = 31 * hash + graph.to(arrow);
            hash = 31 * hash + functions.code(arrow);
        }
        for (int cell = 0; cell < cells.total(); cell++) {
            for (int what = 0; what <= 4; what++) {
                hash = 31 * hash + cell(cell, what);
            }
        }
        for (int path = 0; path < paths.total(); path++) {
            hash = 31 * hash + path(path, 0);
            hash = 31 * hash + path(path, 1);
            hash = 31 * hash + path(path, 3);
            hash = 31 * hash + path(path, 5);
        }
        hash = 31 * hash + doubleBits(commuting());
        hash = 31 * hash + input.length();
        for (int i = 0; i < input.length(); i++) {
            hash = 31 * hash + input.codeAt(i);
        }
        return hash;
    }

    // ---- what the calls share

    private void graphChanged() {
        paths.rebuild(graph);
        cellsChanged();
    }

    private void cellsChanged() {
        cells.renumber(paths);
        pasting.forget();
    }

    private void requireObject(int object) {
        if (!graph.hasObject(object)) {
            throw new IndexOutOfBoundsException("the object does not exist");
        }
    }

    private void requireArrow(int arrow) {
        if (!graph.hasArrow(arrow)) {
            throw new IndexOutOfBoundsException("the arrow does not exist");
        }
    }

    private void requireCell(int cell) {
        if (cell < 0 || cell >= cells.total()) {
            throw new IndexOutOfBoundsException("the cell does not exist");
        }
    }

    private void requirePath(int path) {
        if (path < 0 || path >= paths.total()) {
            throw new IndexOutOfBoundsException("the path does not exist");
        }
    }

    private void requireParallel(int first, int second) {
        requirePath(first);
        requirePath(second);
        if (paths.start.get(first) != paths.start.get(second) || paths.end.get(first) != paths.end.get(second)) {
            throw new IllegalArgumentException("the paths are not parallel");
        }
    }

    private void lengthenBy(int side, int path) {
        for (int i = 0; i < paths.length.get(path); i++) {
            cells.lengthen(side, paths.arrow.get(path, i));
        }
    }

    private int pathsFromTo(int from, int to) {
        int found = 0;
        for (int path = 0; path < paths.total(); path++) {
            if (paths.leads(path, from, to)) {
                found++;
            }
        }
        return found;
    }

    /** How many pairs of different objects have a path, and no more classes than that. */
    private int pairsWithAtMost(int classes) {
        int pairs = 0;
        for (int from = 0; from < graph.objectTotal(); from++) {
            for (int to = from + 1; to < graph.objectTotal(); to++) {
                int found = pasting.classesBetween(from, to);
                if (found > 0 && found <= classes) {
                    pairs++;
                }
            }
        }
        return pairs;
    }

    /** Leaves the distances to the goal in pasting, where a proof finds them. */
    private int stepsTo(int goal, int path) {
        pasting.refresh(paths, cells);
        pasting.spread(goal, Pasting.ALL_CELLS);
        return pasting.stepsFrom(path);
    }

    private boolean holds(Functions by, int cell) {
        return by.agree(paths, cells.pathOf(cell, 0), cells.pathOf(cell, 1));
    }

    private boolean allHold(Functions by) {
        for (int cell = 0; cell < cells.total(); cell++) {
            if (!holds(by, cell)) {
                return false;
            }
        }
        return true;
    }

    private int holdingCells() {
        int holding = 0;
        for (int cell = 0; cell < cells.total(); cell++) {
            if (holds(functions, cell)) {
                holding++;
            }
        }
        return holding;
    }

    private int sizeAtStart(int arrow) {
        return functions.size(graph.from(arrow));
    }

    private int sizeAtEnd(int arrow) {
        return functions.size(graph.to(arrow));
    }

    private boolean isSquare(int p, int f, int q, int g) {
        return graph.from(f) == graph.to(p) && graph.from(q) == graph.from(p)
                && graph.from(g) == graph.to(q) && graph.to(g) == graph.to(f);
    }

    /** Whether p followed by f, and q followed by g give the same. */
    private boolean sameBehind(int p, int f, int q, int g) {
        for (int z = 0; z < sizeAtStart(p); z++) {
            int x = functions.value(p, z);
            int y = functions.value(q, z);
            if (functions.value(f, x) != functions.value(g, y)) {
                return false;
            }
        }
        return true;
    }

    /** How many elements p takes to x, and q to y. */
    private int sources(int p, int x, int q, int y) {
        int found = 0;
        for (int z = 0; z < sizeAtStart(p); z++) {
            if (functions.value(p, z) == x && functions.value(q, z) == y) {
                found++;
            }
        }
        return found;
    }

    /** Float.floatToIntBits of a share from 0 to 1, by arithmetic that is exact. */
    private static int floatBits(float share) {
        if (!(share > 0.0f)) {
            return 0;
        }
        float rest = share;
        int exponent = 127;
        for (; rest < 1.0f && exponent > 1; exponent--) {
            rest = rest * 2.0f;
        }
        return (exponent << 23) | (int) ((rest - 1.0f) * 8388608.0f);
    }

    /** Double.doubleToLongBits of a share from 0 to 1, by arithmetic that is exact. */
    private static long doubleBits(double share) {
        if (!(share > 0.0)) {
            return 0L;
        }
        double rest = share;
        long exponent = 1023L;
        for (; rest < 1.0 && exponent > 1L; exponent--) {
            rest = rest * 2.0;
        }
        return (exponent << 52) | (long) ((rest - 1.0) * 4503599627370496.0);
    }

    /** A row of numbers that looks at each index before it uses it; NONE stands outside. */
    private static final class Row {
        private final int[] numbers;

        Row(int length) {
            numbers = new int[length > 0 ? length : 0];
        }

        int get(int index) {
            return index >= 0 && index < numbers.length ? numbers[index] : NONE;
        }

        void set(int index, int number) {
            if (index >= 0 && index < numbers.length) {
                numbers[index] = number;
            }
        }

        void fill(int number) {
            for (int i = 0; i < numbers.length; i++) {
                numbers[i] = number;
            }
        }

        void copyFrom(Row other) {
            for (int i = 0; i < numbers.length; i++) {
                numbers[i] = other.get(i);
            }
        }
    }

    /** Rows of the same length, looked at like a Row; NONE stands outside. */
    private static final class Grid {
        private final int rows;
        private final int columns;
        private final int[] numbers;

        Grid(int rows, int columns) {
            this.rows = rows > 0 ? rows : 0;
            this.columns = columns > 0 ? columns : 0;
            int places = this.rows * this.columns;
            this.numbers = new int[places > 0 ? places : 0];
        }

        int get(int row, int column) {
            if (row < 0 || row >= rows || column < 0 || column >= columns) {
                return NONE;
            }
            int place = row * columns + column;
            return place >= 0 && place < numbers.length ? numbers[place] : NONE;
        }

        void set(int row, int column, int number) {
            if (row < 0 || row >= rows || column < 0 || column >= columns) {
                return;
            }
            int place = row * columns + column;
            if (place >= 0 && place < numbers.length) {
                numbers[place] = number;
            }
        }

        void fill(int number) {
            for (int i = 0; i < numbers.length; i++) {
                numbers[i] = number;
            }
        }

        void copyFrom(Grid other) {
            for (int i = 0; i < numbers.length && i < other.numbers.length; i++) {
                numbers[i] = other.numbers[i];
            }
        }
    }

    /** The objects and the arrows. */
    private static final class Graph {
        private int objects = 0;
        private int arrows = 0;
        private final Row froms = new Row(MAX_ARROWS);
        private final Row tos = new Row(MAX_ARROWS);
        private final Row arriving = new Row(MAX_OBJECTS);

        void clear(int newObjects) {
            objects = newObjects;
            arrows = 0;
        }

        void become(Graph other) {
            objects = other.objects;
            arrows = other.arrows;
            froms.copyFrom(other.froms);
            tos.copyFrom(other.tos);
        }

        int objectTotal() {
            return objects;
        }

        int arrowTotal() {
            return arrows;
        }

        boolean hasObject(int object) {
            return object >= 0 && object < objects;
        }

        boolean hasArrow(int arrow) {
            return arrow >= 0 && arrow < arrows;
        }

        int from(int arrow) {
            return hasArrow(arrow) ? froms.get(arrow) : NONE;
        }

        int to(int arrow) {
            return hasArrow(arrow) ? tos.get(arrow) : NONE;
        }

        int join(int from, int to) {
            froms.set(arrows, from);
            tos.set(arrows, to);
            arrows++;
            return arrows - 1;
        }

        void dropLast() {
            arrows--;
        }

        /** How many paths there are, the empty ones included. */
        int pathTotal() {
            int total = 0;
            countFrom(NONE);
            for (int object = 0; object < objects; object++) {
                total += arriving.get(object);
            }
            return total;
        }

        /** How many paths one more arrow would make: each has a path before it, and one behind. */
        int pathsThrough(int from, int to) {
            countFrom(NONE);
            int before = arriving.get(from);
            int behind = 0;
            countFrom(to);
            for (int object = 0; object < objects; object++) {
                behind += arriving.get(object);
            }
            return before * behind;
        }

        /** Counts the paths to each object, from the one object alone, or from all (NONE). */
        private void countFrom(int origin) {
            for (int object = 0; object < objects; object++) {
                int found = origin == NONE || origin == object ? 1 : 0;
                for (int arrow = 0; arrow < arrows; arrow++) {
                    if (tos.get(arrow) == object) {
                        // it leads from an object with a lower number, which is counted already
                        found += arriving.get(froms.get(arrow));
                    }
                }
                arriving.set(object, found);
            }
        }
    }

    /** All paths in the order of their numbers; the empty path of an object has its number. */
    private static final class Paths {
        private int total = 0;
        private final Row start = new Row(MAX_PATHS);
        private final Row end = new Row(MAX_PATHS);
        private final Row length = new Row(MAX_PATHS);
        private final Grid arrow = new Grid(MAX_PATHS, MAX_LENGTH);

        /** The path without its last arrow; NONE for an empty one. */
        private final Row shorter = new Row(MAX_PATHS);

        /** The path with one more arrow; NONE if the arrow does not go on from its end. */
        private final Grid longer = new Grid(MAX_PATHS, MAX_ARROWS);

        void rebuild(Graph graph) {
            total = 0;
            for (int object = 0; object < graph.objectTotal(); object++) {
                enter(object, object, 0, NONE);
            }
            // the arrows themselves are ordered by their numbers, not by where they begin
            for (int last = 0; last < graph.arrowTotal(); last++) {
                enterLonger(graph.from(last), last, graph.to(last));
            }
            for (int path = graph.objectTotal(); path < total && path < MAX_PATHS; path++) {
                for (int last = 0; last < graph.arrowTotal(); last++) {
                    if (graph.from(last) == end.get(path)) {
                        enterLonger(path, last, graph.to(last));
                    }
                }
            }
        }

        int total() {
            return total;
        }

        /** The last arrow; NONE for an empty path. */
        int last(int path) {
            return arrow.get(path, length.get(path) - 1);
        }

        boolean leads(int path, int from, int to) {
            return start.get(path) == from && end.get(path) == to;
        }

        private void enter(int from, int to, int arrows, int withoutLast) {
            start.set(total, from);
            end.set(total, to);
            length.set(total, arrows);
            shorter.set(total, withoutLast);
            for (int next = 0; next < MAX_ARROWS; next++) {
                longer.set(total, next, NONE);
            }
            total++;
        }

        private void enterLonger(int path, int last, int to) {
            int before = length.get(path);
            for (int i = 0; i < before; i++) {
                arrow.set(total, i, arrow.get(path, i));
            }
            arrow.set(total, before, last);
            longer.set(path, last, total);
            enter(start.get(path), to, before + 1, path);
        }
    }

    /** The cells, kept as arrows, because the numbers of paths change when arrows come or go. */
    private static final class Cells {
        private int total = 0;
        private final Row origins = new Row(MAX_CELLS);
        private final Row lengths = new Row(2 * MAX_CELLS);
        private final Grid letters = new Grid(2 * MAX_CELLS, MAX_LENGTH);
        private final Row numbers = new Row(2 * MAX_CELLS);

        void clear() {
            total = 0;
        }

        void become(Cells other) {
            total = other.total;
            origins.copyFrom(other.origins);
            lengths.copyFrom(other.lengths);
            letters.copyFrom(other.letters);
        }

        int total() {
            return total;
        }

        /** Adds a cell of two empty paths, which lengthen makes longer. */
        int open(int origin) {
            origins.set(total, origin);
            lengths.set(2 * total, 0);
            lengths.set(2 * total + 1, 0);
            total++;
            return total - 1;
        }

        void lengthen(int side, int arrow) {
            int place = 2 * (total - 1) + side;
            int length = lengths.get(place);
            letters.set(place, length, arrow);
            lengths.set(place, length + 1);
        }

        void remove(int cell) {
            for (int later = cell + 1; later < total; later++) {
                move(later, later - 1);
            }
            total--;
        }

        int removeAllWith(int arrow) {
            int kept = 0;
            for (int cell = 0; cell < total; cell++) {
                if (!occurs(cell, 0, arrow) && !occurs(cell, 1, arrow)) {
                    move(cell, kept);
                    kept++;
                }
            }
            int removed = total - kept;
            total = kept;
            return removed;
        }

        /** Finds the present numbers of the paths of all cells. */
        void renumber(Paths paths) {
            for (int place = 0; place < 2 * total; place++) {
                int path = origins.get(place / 2);
                for (int i = 0; i < lengths.get(place); i++) {
                    path = paths.longer.get(path, letters.get(place, i));
                }
                numbers.set(place, path);
            }
        }

        int pathOf(int cell, int side) {
            return numbers.get(2 * cell + side);
        }

        private boolean occurs(int cell, int side, int arrow) {
            int place = 2 * cell + side;
            for (int i = 0; i < lengths.get(place); i++) {
                if (letters.get(place, i) == arrow) {
                    return true;
                }
            }
            return false;
        }

        private void move(int from, int to) {
            origins.set(to, origins.get(from));
            for (int side = 0; side < 2; side++) {
                int place = 2 * from + side;
                lengths.set(2 * to + side, lengths.get(place));
                for (int i = 0; i < lengths.get(place); i++) {
                    letters.set(2 * to + side, i, letters.get(place, i));
                }
            }
        }
    }

    /** What follows from the cells; found anew only when it is asked for after a change. */
    private static final class Pasting {
        static final int ALL_CELLS = (1 << MAX_CELLS) - 1;

        private boolean fresh = false;
        private boolean coreFresh = false;
        private int sides = 0;
        private int classes = 0;
        private int core = 0;
        private int reached = 0;
        private final Grid steps = new Grid(MAX_PATHS, 2 * MAX_CELLS);
        private final Row names = new Row(MAX_PATHS);
        private final Row classSizes = new Row(MAX_PATHS);
        private final Row distances = new Row(MAX_PATHS);
        private final Row queue = new Row(MAX_PATHS);
        private final Grid perPair = new Grid(MAX_OBJECTS, MAX_OBJECTS);

        Pasting() {
            distances.fill(NONE);
        }

        void forget() {
            fresh = false;
            coreFresh = false;
        }

        void refresh(Paths paths, Cells cells) {
            if (fresh) {
                return;
            }
            fresh = true;
            sides = 2 * cells.total();
            for (int side = 0; side < sides; side++) {
                // the two paths of a cell stand side by side: 2n, and 2n + 1
                int part = cells.pathOf(side / 2, side % 2);
                int other = cells.pathOf(side / 2, 1 - side % 2);
                for (int path = 0; path < paths.total(); path++) {
                    steps.set(path, side, stepFrom(paths, path, side, part, other));
                }
            }
            findClasses(paths);
        }

        void refreshCore(Cells cells) {
            if (coreFresh) {
                return;
            }
            coreFresh = true;
            core = (1 << cells.total()) - 1;
            for (int cell = cells.total() - 1; cell >= 0; cell--) {
                int others = core & ~(1 << cell);
                if (isEqualBy(cells, cell, others)) {
                    core = others;
                }
            }
        }

        int className(int path) {
            return names.get(path);
        }

        int classSize(int path) {
            return classSizes.get(path);
        }

        int classTotal() {
            return classes;
        }

        int classesBetween(int from, int to) {
            return perPair.get(from, to);
        }

        int coreSize() {
            return Integer.bitCount(core);
        }

        boolean isInCore(int cell) {
            return ((core >> cell) & 1) == 1;
        }

        boolean isRedundant(Cells cells, int cell) {
            return isEqualBy(cells, cell, ALL_CELLS & ~(1 << cell));
        }

        /** Finds the distances of all paths to this one, by steps of the allowed cells alone. */
        void spread(int origin, int allowed) {
            for (int i = 0; i < reached; i++) {
                distances.set(queue.get(i), NONE);
            }
            reached = 0;
            reach(origin, 0);
            for (int i = 0; i < reached && i < MAX_PATHS; i++) {
                int path = queue.get(i);
                for (int side = 0; side < sides; side++) {
                    int next = steps.get(path, side);
                    if (((allowed >> (side / 2)) & 1) == 1 && next != NONE && distances.get(next) == NONE) {
                        reach(next, distances.get(path) + 1);
                    }
                }
            }
        }

        /** The distance from where spread began. */
        int stepsFrom(int path) {
            return distances.get(path);
        }

        /** The lowest path that is one step nearer to where spread began. */
        int nextInProof(int path) {
            int lowest = NONE;
            for (int side = 0; side < sides; side++) {
                int next = steps.get(path, side);
                boolean nearer = next != NONE && distances.get(next) == distances.get(path) - 1;
                if (nearer && (lowest == NONE || next < lowest)) {
                    lowest = next;
                }
            }
            return lowest;
        }

        int cellOfStep(int path, int next) {
            for (int side = 0; side < sides; side++) {
                if (steps.get(path, side) == next) {
                    return side / 2;
                }
            }
            return NONE;
        }

        private void reach(int path, int distance) {
            distances.set(path, distance);
            queue.set(reached, path);
            reached++;
        }

        private boolean isEqualBy(Cells cells, int cell, int allowed) {
            spread(cells.pathOf(cell, 0), allowed);
            return distances.get(cells.pathOf(cell, 1)) != NONE;
        }

        private void findClasses(Paths paths) {
            names.fill(NONE);
            perPair.fill(0);
            classes = 0;
            for (int path = 0; path < paths.total(); path++) {
                if (names.get(path) == NONE) {
                    spread(path, ALL_CELLS);
                    nameReached(path);
                    countClass(paths.start.get(path), paths.end.get(path));
                }
            }
        }

        private void countClass(int from, int to) {
            perPair.set(from, to, perPair.get(from, to) + 1);
            classes++;
        }

        private void nameReached(int name) {
            for (int i = 0; i < reached; i++) {
                names.set(queue.get(i), name);
                classSizes.set(queue.get(i), reached);
            }
        }

        /**
         * The path with the part replaced by the other one; NONE if it has no such part. The part
         * stands in the path without its last arrow, which has its steps already, or at the end.
         */
        private int stepFrom(Paths paths, int path, int side, int part, int other) {
            int shorterStep = steps.get(paths.shorter.get(path), side);
            if (shorterStep != NONE) {
                return paths.longer.get(shorterStep, paths.last(path));
            }
            int result = path;
            for (int i = paths.length.get(part) - 1; i >= 0; i--) {
                if (paths.last(result) != paths.arrow.get(part, i)) {
                    return NONE;
                }
                result = paths.shorter.get(result);
            }
            for (int i = 0; i < paths.length.get(other); i++) {
                result = paths.longer.get(result, paths.arrow.get(other, i));
            }
            return result;
        }
    }

    /** The sizes of the objects and the functions of the arrows. */
    private static final class Functions {
        private final Row sizes = new Row(MAX_OBJECTS);
        private final Row codes = new Row(MAX_ARROWS);

        void clear() {
            sizes.fill(FIRST_SIZE);
        }

        void become(Functions other) {
            sizes.copyFrom(other.sizes);
            codes.copyFrom(other.codes);
        }

        int size(int object) {
            return sizes.get(object);
        }

        void resize(int object, int size) {
            sizes.set(object, size);
        }

        int code(int arrow) {
            return codes.get(arrow);
        }

        void setCode(int arrow, int code) {
            codes.set(arrow, code);
        }

        int value(int arrow, int element) {
            return digit(codes.get(arrow), element);
        }

        int valueAlong(Paths paths, int path, int element) {
            int value = element;
            for (int i = 0; i < paths.length.get(path); i++) {
                value = digit(codes.get(paths.arrow.get(path, i)), value);
            }
            return value;
        }

        int imageSize(Paths paths, int path) {
            int image = 0;
            for (int element = 0; element < sizes.get(paths.start.get(path)); element++) {
                image |= 1 << valueAlong(paths, path, element);
            }
            return Integer.bitCount(image);
        }

        boolean agree(Paths paths, int first, int second) {
            for (int element = 0; element < sizes.get(paths.start.get(first)); element++) {
                if (valueAlong(paths, first, element) != valueAlong(paths, second, element)) {
                    return false;
                }
            }
            return true;
        }

        /** Makes the choice with this number; the last arrow has the lowest digit of base 4. */
        void choose(int choice, int arrows) {
            int rest = choice;
            for (int arrow = arrows - 1; arrow >= 0; arrow--) {
                // the codes 0, 1, 4 and 5 are the two bits of the digit, each in a place of base 4
                codes.set(arrow, (rest & 1) | ((rest & 2) << 1));
                rest = rest >> 2;
            }
        }

        static boolean isCode(int code, int elements, int values) {
            if (code < 0 || code >= 1 << (2 * elements)) {
                return false;
            }
            for (int element = 0; element < elements; element++) {
                if (digit(code, element) >= values) {
                    return false;
                }
            }
            return true;
        }

        private static int digit(int code, int element) {
            return (code >> (2 * element)) & 3;
        }
    }

    /** The input buffer. */
    private static final class Input {
        private int length = 0;
        private final Row codes = new Row(MAX_INPUT);

        int length() {
            return length;
        }

        int codeAt(int index) {
            return index < length ? codes.get(index) : NONE;
        }

        /** The arrow that the letter there would be; below 0 where no letter is. */
        int arrowAt(int index) {
            return codeAt(index) - 'a';
        }

        void put(int code) {
            codes.set(length, code);
            length++;
        }

        void clear() {
            length = 0;
        }
    }

    /** Reads the buffer as a diagram, into a draft, so that a text that is refused changes nothing. */
    private static final class Reader {
        private static final int AT_ITEM = 0;
        private static final int BEHIND_DIGIT = 1;
        private static final int BEHIND_ARROW = 2;
        private static final int IN_FIRST = 3;
        private static final int BEHIND_EQUALS = 4;
        private static final int IN_SECOND = 5;

        private final Graph graph = new Graph();
        private final Cells cells = new Cells();
        private int place = AT_ITEM;
        private int from = 0;
        private int end = 0;
        private int firstEnd = 0;

        /** Returns the index of the first syntax error, or the length. */
        int read(Input input, Graph oldGraph, Cells oldCells) {
            graph.become(oldGraph);
            cells.become(oldCells);
            place = AT_ITEM;
            for (int i = 0; i < input.length(); i++) {
                if (!accepts(input.codeAt(i))) {
                    return i;
                }
            }
            return input.length();
        }

        boolean isComplete() {
            return place == BEHIND_ARROW || place == IN_SECOND && end == firstEnd;
        }

        Graph graphRead() {
            return graph;
        }

        Cells cellsRead() {
            return cells;
        }

        private boolean accepts(int code) {
            switch (place) {
                case AT_ITEM:
                    return beginsArrow(code - '0') || beginsCell(code - 'a');
                case BEHIND_DIGIT:
                    return endsArrow(code - '0');
                case BEHIND_ARROW:
                    return endsItem(code);
                case IN_FIRST:
                    return goesOn(0, end, code - 'a') || endsFirst(code);
                case BEHIND_EQUALS:
                    return beginsSecond(code - 'a');
                default:
                    return goesOn(1, end, code - 'a') || endsItem(code);
            }
        }

        private boolean beginsArrow(int object) {
            if (object < 0 || object >= graph.objectTotal() - 1 || graph.arrowTotal() >= MAX_ARROWS) {
                return false;
            }
            from = object;
            place = BEHIND_DIGIT;
            return true;
        }

        private boolean endsArrow(int object) {
            if (object <= from || !graph.hasObject(object)) {
                return false;
            }
            graph.join(from, object);
            place = BEHIND_ARROW;
            return true;
        }

        private boolean beginsCell(int arrow) {
            if (!graph.hasArrow(arrow) || cells.total() >= MAX_CELLS) {
                return false;
            }
            from = graph.from(arrow);
            cells.open(from);
            place = IN_FIRST;
            return goesOn(0, from, arrow);
        }

        private boolean beginsSecond(int arrow) {
            if (!goesOn(1, from, arrow)) {
                return false;
            }
            place = IN_SECOND;
            return true;
        }

        private boolean goesOn(int side, int object, int arrow) {
            if (!graph.hasArrow(arrow) || graph.from(arrow) != object) {
                return false;
            }
            cells.lengthen(side, arrow);
            end = graph.to(arrow);
            return true;
        }

        private boolean endsFirst(int code) {
            if (code != '=') {
                return false;
            }
            firstEnd = end;
            place = BEHIND_EQUALS;
            return true;
        }

        private boolean endsItem(int code) {
            if (code != ';' || !isComplete()) {
                return false;
            }
            place = AT_ITEM;
            return true;
        }
    }
}
