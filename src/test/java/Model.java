import java.util.ArrayDeque;
import java.util.ArrayList;
import java.util.Arrays;
import java.util.Collections;
import java.util.Comparator;
import java.util.HashMap;
import java.util.HashSet;
import java.util.List;
import java.util.Map;
import java.util.Set;
import java.util.TreeMap;

/**
 * The document once more, written with texts and maps instead of rows, to compare answers with.
 * A path is the text of its letters; the empty path of the object 3 is "@3".
 */
final class Model {
    private int objects = 2;
    private final List<int[]> arrows = new ArrayList<>(); // from, to, code
    private final List<String[]> cells = new ArrayList<>();
    private final int[] sizes = {2, 2, 2, 2, 2, 2, 2, 2};
    private String buffer = "";

    private List<String> memoPaths;
    private Map<String, Integer> memoNumbers;
    private Map<String, List<String>> memoClasses;

    private void changed() {
        memoPaths = null;
        memoNumbers = null;
        memoClasses = null;
    }

    // ---- paths as texts

    private static boolean isEmptyPath(String path) {
        return path.startsWith("@");
    }

    private static int length(String path) {
        return isEmptyPath(path) ? 0 : path.length();
    }

    private int start(String path) {
        return isEmptyPath(path) ? path.charAt(1) - '0' : arrows.get(path.charAt(0) - 'a')[0];
    }

    private int end(String path) {
        return isEmptyPath(path) ? path.charAt(1) - '0' : arrows.get(path.charAt(path.length() - 1) - 'a')[1];
    }

    private boolean parallel(String p, String q) {
        return start(p) == start(q) && end(p) == end(q);
    }

    private static void collect(List<int[]> arrows, int at, String letters, List<String> into) {
        into.add(letters.isEmpty() ? "@" + at : letters);
        for (int a = 0; a < arrows.size(); a++) {
            if (arrows.get(a)[0] == at) {
                collect(arrows, arrows.get(a)[1], letters + (char) ('a' + a), into);
            }
        }
    }

    private List<String> allPaths(List<int[]> of) {
        List<String> all = new ArrayList<>();
        for (int o = 0; o < objects; o++) {
            collect(of, o, "", all);
        }
        all.sort(Comparator.<String>comparingInt(Model::length).thenComparing(Comparator.naturalOrder()));
        return all;
    }

    private List<String> paths() {
        if (memoPaths == null) {
            memoPaths = allPaths(arrows);
            memoNumbers = new HashMap<>();
            for (int i = 0; i < memoPaths.size(); i++) {
                memoNumbers.put(memoPaths.get(i), i);
            }
        }
        return memoPaths;
    }

    private int number(String path) {
        paths();
        return memoNumbers.get(path);
    }

    private String pathAt(int number) {
        if (number < 0 || number >= paths().size()) {
            throw new IndexOutOfBoundsException();
        }
        return paths().get(number);
    }

    // ---- pasting

    /** The paths that one step leads to, each with the lowest cell for it. */
    private TreeMap<Integer, Integer> steps(String path, Set<Integer> by) {
        TreeMap<Integer, Integer> found = new TreeMap<>();
        for (int c = 0; c < cells.size(); c++) {
            if (!by.contains(c)) {
                continue;
            }
            for (int side = 0; side < 2; side++) {
                String part = cells.get(c)[side];
                String other = cells.get(c)[1 - side];
                if (!isEmptyPath(part) && path.contains(part)) {
                    found.putIfAbsent(number(path.replace(part, other)), c);
                }
            }
        }
        return found;
    }

    private Map<String, Integer> distances(String origin, Set<Integer> by) {
        Map<String, Integer> far = new HashMap<>();
        ArrayDeque<String> open = new ArrayDeque<>();
        far.put(origin, 0);
        open.add(origin);
        while (!open.isEmpty()) {
            String path = open.remove();
            for (int next : steps(path, by).keySet()) {
                if (!far.containsKey(pathAt(next))) {
                    far.put(pathAt(next), far.get(path) + 1);
                    open.add(pathAt(next));
                }
            }
        }
        return far;
    }

    private Set<Integer> allCells() {
        Set<Integer> all = new HashSet<>();
        for (int c = 0; c < cells.size(); c++) {
            all.add(c);
        }
        return all;
    }

    private List<String> classOf(String path) {
        if (memoClasses == null) {
            memoClasses = new HashMap<>();
            for (String p : paths()) {
                if (!memoClasses.containsKey(p)) {
                    List<String> members = new ArrayList<>(distances(p, allCells()).keySet());
                    members.sort(Comparator.comparingInt(this::number));
                    for (String member : members) {
                        memoClasses.put(member, members);
                    }
                }
            }
        }
        return memoClasses.get(path);
    }

    private boolean equalBy(int cell, Set<Integer> by) {
        return distances(cells.get(cell)[0], by).containsKey(cells.get(cell)[1]);
    }

    private boolean redundant(int cell) {
        Set<Integer> others = allCells();
        others.remove(cell);
        return equalBy(cell, others);
    }

    private Set<Integer> core() {
        Set<Integer> core = allCells();
        for (int c = cells.size() - 1; c >= 0; c--) {
            core.remove(c);
            if (!equalBy(c, core)) {
                core.add(c);
            }
        }
        return core;
    }

    // ---- functions

    private static int[] table(int code, int size) {
        int[] values = new int[size];
        for (int x = 0; x < size; x++) {
            values[x] = code / (int) Math.pow(4, x) % 4;
        }
        return values;
    }

    private int[] arrowTable(int arrow) {
        return table(arrows.get(arrow)[2], sizes[arrows.get(arrow)[0]]);
    }

    private int[] pathTable(String path) {
        int[] values = new int[sizes[start(path)]];
        for (int x = 0; x < values.length; x++) {
            values[x] = x;
            for (int i = 0; i < length(path); i++) {
                values[x] = arrowTable(path.charAt(i) - 'a')[values[x]];
            }
        }
        return values;
    }

    private boolean sameFunction(String p, String q) {
        return Arrays.equals(pathTable(p), pathTable(q));
    }

    private int imageSize(String path) {
        return (int) Arrays.stream(pathTable(path)).distinct().count();
    }

    // ---- the face

    int begin(int n) {
        if (n < 2 || n > 8) {
            throw new IllegalArgumentException();
        }
        int previous = objects;
        objects = n;
        arrows.clear();
        cells.clear();
        Arrays.fill(sizes, 2);
        changed();
        return previous;
    }

    private void object(int o) {
        if (o < 0 || o >= objects) {
            throw new IndexOutOfBoundsException();
        }
    }

    int addArrow(int from, int to) {
        object(from);
        object(to);
        if (to <= from) {
            throw new IllegalArgumentException();
        }
        List<int[]> more = new ArrayList<>(arrows);
        more.add(new int[] {from, to, 0});
        if (arrows.size() == 14 || allPaths(more).size() > 300) {
            throw new IllegalStateException();
        }
        arrows.add(new int[] {from, to, 0});
        changed();
        return arrows.size() - 1;
    }

    int dropArrow() {
        if (arrows.isEmpty()) {
            throw new IllegalStateException();
        }
        String letter = "" + (char) ('a' + arrows.size() - 1);
        int before = cells.size();
        cells.removeIf(c -> c[0].contains(letter) || c[1].contains(letter));
        arrows.remove(arrows.size() - 1);
        changed();
        return before - cells.size();
    }

    int addCell(int first, int second) {
        String p = pathAt(first);
        String q = pathAt(second);
        if (!parallel(p, q)) {
            throw new IllegalArgumentException();
        }
        if (cells.size() == 10) {
            throw new IllegalStateException();
        }
        cells.add(new String[] {p, q});
        changed();
        return cells.size() - 1;
    }

    int dropCell(int cell) {
        if (cell < 0 || cell >= cells.size()) {
            throw new IndexOutOfBoundsException();
        }
        cells.remove(cell);
        changed();
        return cells.size();
    }

    int append(int code) {
        if (code < 32 || code > 126) {
            throw new IllegalArgumentException();
        }
        if (buffer.length() == 60) {
            throw new IllegalStateException();
        }
        buffer += (char) code;
        return buffer.length();
    }

    int clearInput() {
        int previous = buffer.length();
        buffer = "";
        return previous;
    }

    /** All characters that may come behind a text without a syntax error. */
    private String allowed(String text) {
        List<int[]> known = new ArrayList<>(arrows);
        int knownCells = cells.size();
        String[] items = (text + "#").split(";");
        for (int i = 0; i < items.length - 1; i++) {
            if (Character.isDigit(items[i].charAt(0))) {
                known.add(new int[] {items[i].charAt(0) - '0', items[i].charAt(1) - '0', 0});
            } else {
                knownCells++;
            }
        }
        String item = items[items.length - 1].replace("#", "");
        StringBuilder found = new StringBuilder();
        if (item.isEmpty()) {
            for (int o = 0; known.size() < 14 && o < objects - 1; o++) {
                found.append(o);
            }
            for (int a = 0; knownCells < 10 && a < known.size(); a++) {
                found.append((char) ('a' + a));
            }
        } else if (Character.isDigit(item.charAt(0))) {
            for (int o = item.charAt(0) - '0' + 1; item.length() == 1 && o < objects; o++) {
                found.append(o);
            }
            found.append(item.length() == 2 ? ";" : "");
        } else {
            int equals = item.indexOf('=');
            int at = known.get(item.charAt(item.length() - 1 == equals ? 0 : item.length() - 1) - 'a')
                    [item.length() - 1 == equals ? 0 : 1];
            for (int a = 0; a < known.size(); a++) {
                found.append(known.get(a)[0] == at ? "" + (char) ('a' + a) : "");
            }
            if (equals < 0) {
                found.append('=');
            } else if (equals < item.length() - 1 && known.get(item.charAt(equals - 1) - 'a')[1] == at) {
                found.append(';');
            }
        }
        return found.toString();
    }

    int firstError() {
        for (int i = 0; i < buffer.length(); i++) {
            if (allowed(buffer.substring(0, i)).indexOf(buffer.charAt(i)) < 0) {
                return i;
            }
        }
        return buffer.length();
    }

    int load() {
        if (firstError() < buffer.length() || allowed(buffer).indexOf(';') < 0) {
            throw new IllegalArgumentException();
        }
        String[] items = buffer.split(";");
        List<int[]> more = new ArrayList<>(arrows);
        for (String item : items) {
            if (Character.isDigit(item.charAt(0))) {
                more.add(new int[] {item.charAt(0) - '0', item.charAt(1) - '0', 0});
            }
        }
        if (allPaths(more).size() > 300) {
            throw new IllegalStateException();
        }
        arrows.addAll(more.subList(arrows.size(), more.size()));
        for (String item : items) {
            if (!Character.isDigit(item.charAt(0))) {
                cells.add(item.split("="));
            }
        }
        buffer = "";
        changed();
        return items.length;
    }

    int find() {
        return buffer.startsWith("@") ? -1 : paths().indexOf(buffer);
    }

    int path(int path, int what) {
        String p = pathAt(path);
        switch (what) {
            case 0: return start(p);
            case 1: return end(p);
            case 2: return length(p);
            case 3: return number(classOf(p).get(0));
            case 4: return classOf(p).size();
            case 5: return imageSize(p);
            case 6: return imageSize(p) == sizes[start(p)] ? 1 : 0;
            default: throw new IllegalArgumentException();
        }
    }

    int arrowOf(int path, int index) {
        String p = pathAt(path);
        if (index < 0 || index >= length(p)) {
            throw new IndexOutOfBoundsException();
        }
        return p.charAt(index) - 'a';
    }

    int between(int from, int to, boolean classes) {
        object(from);
        object(to);
        int paths = 0;
        Set<List<String>> found = Collections.newSetFromMap(new java.util.IdentityHashMap<>());
        for (String p : paths()) {
            if (start(p) == from && end(p) == to) {
                paths++;
                found.add(classOf(p));
            }
        }
        return classes ? found.size() : paths;
    }

    int distance(int first, int second) {
        String p = pathAt(first);
        return distances(p, allCells()).getOrDefault(pathAt(second), -1);
    }

    int proof(int first, int second, int index, int what) {
        String p = pathAt(first);
        Map<String, Integer> far = distances(pathAt(second), allCells());
        if (what < 0 || what > 1) {
            throw new IllegalArgumentException();
        }
        if (!far.containsKey(p) || index < 0 || index >= far.get(p)) {
            throw new IllegalStateException();
        }
        for (int i = 0; ; i++) {
            for (Map.Entry<Integer, Integer> step : steps(p, allCells()).entrySet()) {
                String next = pathAt(step.getKey());
                if (far.get(next) == far.get(p) - 1) {
                    if (i == index) {
                        return what == 0 ? step.getKey() : step.getValue();
                    }
                    p = next;
                    break;
                }
            }
        }
    }

    int cell(int cell, int what) {
        if (cell < 0 || cell >= cells.size()) {
            throw new IndexOutOfBoundsException();
        }
        String[] c = cells.get(cell);
        switch (what) {
            case 0: return number(c[0]);
            case 1: return number(c[1]);
            case 2: return redundant(cell) ? 1 : 0;
            case 3: return core().contains(cell) ? 1 : 0;
            case 4: return sameFunction(c[0], c[1]) ? 1 : 0;
            default: throw new IllegalArgumentException();
        }
    }

    int count(int what) {
        switch (what) {
            case 0: return objects;
            case 1: return arrows.size();
            case 2: return cells.size();
            case 3: return paths().size();
            case 4: return (int) paths().stream().filter(p -> classOf(p).get(0).equals(p)).count();
            case 5: return pairs(true);
            case 6: return (int) cells.stream().filter(c -> sameFunction(c[0], c[1])).count();
            case 7: return core().size();
            default: throw new IllegalArgumentException();
        }
    }

    private int pairs(boolean commuting) {
        int found = 0;
        for (int from = 0; from < objects; from++) {
            for (int to = 0; to < objects; to++) {
                int n = from == to ? 0 : between(from, to, true);
                found += commuting ? n == 1 ? 1 : 0 : n > 0 ? 1 : 0;
            }
        }
        return found;
    }

    double commuting() {
        return pairs(false) == 0 ? 1.0 : (double) pairs(true) / pairs(false);
    }

    int setSize(int object, int size) {
        object(object);
        if (size < 1 || size > 4) {
            throw new IllegalArgumentException();
        }
        int previous = sizes[object];
        sizes[object] = size;
        for (int[] a : arrows) {
            a[2] = a[0] == object || a[1] == object ? 0 : a[2];
        }
        return previous;
    }

    private int[] arrow(int a) {
        if (a < 0 || a >= arrows.size()) {
            throw new IndexOutOfBoundsException();
        }
        return arrows.get(a);
    }

    int setFunction(int arrow, int code) {
        int[] a = arrow(arrow);
        boolean valid = code >= 0 && code < 256;
        for (int x = 0; valid && x < 4; x++) {
            int y = table(code, 4)[x];
            valid = x < sizes[a[0]] ? y < sizes[a[1]] : y == 0;
        }
        if (!valid) {
            throw new IllegalArgumentException();
        }
        int previous = a[2];
        a[2] = code;
        return previous;
    }

    int apply(int path, int element) {
        String p = pathAt(path);
        if (element < 0 || element >= sizes[start(p)]) {
            throw new IllegalArgumentException();
        }
        return pathTable(p)[element];
    }

    int imageShare(int path) {
        String p = pathAt(path);
        return Float.floatToIntBits((float) imageSize(p) / sizes[end(p)]);
    }

    int separate(int first, int second) {
        String p = pathAt(first);
        String q = pathAt(second);
        if (!parallel(p, q)) {
            throw new IllegalArgumentException();
        }
        if (arrows.size() > 6) {
            throw new IllegalStateException();
        }
        int[] oldSizes = sizes.clone();
        int[] oldCodes = arrows.stream().mapToInt(a -> a[2]).toArray();
        Arrays.fill(sizes, 2);
        arrows.forEach(a -> a[2] = 0);
        for (int tried = 0; ; tried++) {
            if (!sameFunction(p, q) && cells.stream().allMatch(c -> sameFunction(c[0], c[1]))) {
                return tried;
            }
            int last = arrows.size() - 1;
            while (last >= 0 && arrows.get(last)[2] == 5) {
                arrows.get(last--)[2] = 0;
            }
            if (last < 0) {
                System.arraycopy(oldSizes, 0, sizes, 0, 8);
                for (int a = 0; a < oldCodes.length; a++) {
                    arrows.get(a)[2] = oldCodes[a];
                }
                return -1;
            }
            int code = arrows.get(last)[2];
            arrows.get(last)[2] = code == 0 ? 1 : code == 1 ? 4 : 5;
        }
    }

    boolean isProduct(int p, int q) {
        if (arrow(p)[0] != arrow(q)[0] || p == q) {
            throw new IllegalArgumentException();
        }
        List<String> values = new ArrayList<>();
        List<String> due = new ArrayList<>();
        for (int z = 0; z < sizes[arrow(p)[0]]; z++) {
            values.add(arrowTable(p)[z] + "," + arrowTable(q)[z]);
        }
        for (int x = 0; x < sizes[arrow(p)[1]]; x++) {
            for (int y = 0; y < sizes[arrow(q)[1]]; y++) {
                due.add(x + "," + y);
            }
        }
        Collections.sort(values);
        return values.equals(due);
    }

    boolean isPullback(int p, int f, int q, int g) {
        arrow(p);
        arrow(f);
        arrow(q);
        arrow(g);
        if (arrow(f)[0] != arrow(p)[1] || arrow(q)[0] != arrow(p)[0] || arrow(g)[0] != arrow(q)[1]
                || arrow(g)[1] != arrow(f)[1]) {
            throw new IllegalArgumentException();
        }
        List<String> values = new ArrayList<>();
        List<String> due = new ArrayList<>();
        for (int z = 0; z < sizes[arrow(p)[0]]; z++) {
            values.add(arrowTable(p)[z] + "," + arrowTable(q)[z]);
        }
        for (int x = 0; x < sizes[arrow(p)[1]]; x++) {
            for (int y = 0; y < sizes[arrow(q)[1]]; y++) {
                if (arrowTable(f)[x] == arrowTable(g)[y]) {
                    due.add(x + "," + y);
                }
            }
        }
        Collections.sort(values);
        return values.equals(due);
    }

    boolean isEqualizer(int e, int f, int g) {
        arrow(e);
        arrow(f);
        arrow(g);
        if (arrow(f)[0] != arrow(e)[1] || arrow(g)[0] != arrow(f)[0] || arrow(g)[1] != arrow(f)[1]) {
            throw new IllegalArgumentException();
        }
        List<Integer> values = new ArrayList<>();
        List<Integer> due = new ArrayList<>();
        for (int z : arrowTable(e)) {
            values.add(z);
        }
        for (int x = 0; x < sizes[arrow(e)[1]]; x++) {
            if (arrowTable(f)[x] == arrowTable(g)[x]) {
                due.add(x);
            }
        }
        Collections.sort(values);
        return values.equals(due);
    }

    long digest() {
        List<Long> all = new ArrayList<>();
        for (int what = 0; what < 8; what++) {
            all.add((long) count(what));
        }
        for (int o = 0; o < objects; o++) {
            all.add((long) sizes[o]);
        }
        for (int[] a : arrows) {
            Collections.addAll(all, (long) a[0], (long) a[1], (long) a[2]);
        }
        for (int c = 0; c < cells.size(); c++) {
            for (int what = 0; what < 5; what++) {
                all.add((long) cell(c, what));
            }
        }
        for (int p = 0; p < paths().size(); p++) {
            Collections.addAll(all, (long) path(p, 0), (long) path(p, 1), (long) path(p, 3), (long) path(p, 5));
        }
        all.add(Double.doubleToLongBits(commuting()));
        all.add((long) buffer.length());
        for (char c : buffer.toCharArray()) {
            all.add((long) c);
        }
        long hash = 1987;
        for (long x : all) {
            hash = 31 * hash + x;
        }
        return hash;
    }

    // ---- what a random test looks at to choose its next call

    String someContinuation() {
        return allowed(buffer.substring(0, firstError()));
    }

    List<Integer> parallelTo(int path) {
        List<Integer> found = new ArrayList<>();
        for (int i = 0; i < paths().size(); i++) {
            if (parallel(pathAt(path), pathAt(i))) {
                found.add(i);
            }
        }
        return found;
    }

    List<Integer> equalTo(int path) {
        List<Integer> found = new ArrayList<>();
        for (String member : classOf(pathAt(path))) {
            found.add(number(member));
        }
        return found;
    }

    /** The arrows from an object to another one, or to any (-1). */
    List<Integer> arrowsBetween(int from, int to) {
        List<Integer> found = new ArrayList<>();
        for (int a = 0; a < arrows.size(); a++) {
            if (arrows.get(a)[0] == from && (to < 0 || arrows.get(a)[1] == to)) {
                found.add(a);
            }
        }
        return found;
    }

    int arrowEnd(int arrow, int which) {
        return arrow >= 0 && arrow < arrows.size() ? arrows.get(arrow)[which] : 0;
    }

    int sizeAt(int object) {
        return sizes[object];
    }
}
