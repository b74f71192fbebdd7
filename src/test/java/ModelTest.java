import java.util.List;
import java.util.Random;

/** Long runs of calls, chosen with fixed seeds, whose answers and states are compared with the model. */
public final class ModelTest {
    private static final String[] NAMES = {
        "begin", "addArrow", "dropArrow", "addCell", "dropCell", "append", "clearInput", "firstError", "load",
        "find", "path", "arrowOf", "between", "distance", "proof", "cell", "count", "commuting", "setSize",
        "setFunction", "apply", "imageShare", "separate", "isProduct", "isPullback", "isEqualizer", "digest"
    };
    private static final int[] WEIGHTS = {
        1, 30, 5, 15, 6, 30, 3, 10, 6,
        6, 20, 10, 10, 25, 40, 20, 10, 5, 5,
        40, 15, 10, 10, 12, 15, 12, 5
    };

    private static final int ADD_ARROW = 1;
    private static final int APPEND = 5;
    private static final int CLEAR = 6;
    private static final int FIRST_ERROR = 7;
    private static final int LOAD = 8;
    private static final int DIGEST = 26;

    private final Checks checks;
    private final Random random;
    private final boolean large;
    private final ArrowDiagrams real = new ArrowDiagrams();
    private final Model model = new Model();
    private int calls = 0;
    private final int[] throwing = new int[NAMES.length];
    private final int[] answering = new int[NAMES.length];
    private final int[] positive = new int[NAMES.length];

    private ModelTest(Checks checks, int seed, boolean large) {
        this.checks = checks;
        this.random = new Random(seed);
        this.large = large;
    }

    public static void main(String[] args) {
        Checks checks = new Checks();
        int[] answers = new int[NAMES.length];
        int[] exceptions = new int[NAMES.length];
        int[] positive = new int[NAMES.length];
        for (int seed = 0; seed < 480; seed++) {
            ModelTest test = new ModelTest(checks, seed, seed % 8 == 7);
            test.run("seed " + seed);
            for (int i = 0; i < NAMES.length; i++) {
                answers[i] += test.answering[i];
                exceptions[i] += test.throwing[i];
                positive[i] += test.positive[i];
            }
        }
        for (int i = 0; i < NAMES.length; i++) {
            System.out.println(NAMES[i] + ": " + answers[i] + " answers, " + positive[i]
                    + " of them true or above 0, " + exceptions[i] + " exceptions");
            checks.due(NAMES[i] + " has been tried", positive[i] > 0, true);
        }
        checks.finish();
    }

    private void run(String name) {
        int first = large ? 5 + random.nextInt(4) : 2 + random.nextInt(2) + random.nextInt(4);
        compare(name + " first", 0, first, 0, 0, 0);
        for (int i = 1; large && i < first; i++) {
            compare(name + " chain", ADD_ARROW, i - 1, i, 0, 0);
        }
        while (calls < Cases.CALLS) {
            int op = operation();
            int[] a = {number(), number(), number(), number()};
            bend(op, a);
            String call = name + " call " + calls + " " + NAMES[op] + "(" + a[0] + ", " + a[1] + ", " + a[2] + ", " + a[3] + ")";
            compare(call, op, a[0], a[1], a[2], a[3]);
            if (random.nextInt(large ? 80 : 25) == 0) {
                writeAndLoad(call + " then");
            }
            // a digest asks for everything, and would hide what a call alone finds out too late
            if (random.nextInt(large ? 8 : 3) == 0) {
                compare(call + " digest", DIGEST, 0, 0, 0, 0);
            }
        }
    }

    private int operation() {
        int total = 0;
        for (int weight : WEIGHTS) {
            total += weight;
        }
        int chosen = random.nextInt(total);
        for (int i = 0; i < WEIGHTS.length; i++) {
            chosen -= WEIGHTS[i];
            if (chosen < 0) {
                // a small diagram stays small for longer, so that functions can be searched
                boolean less = NAMES[i].equals("addArrow") && !large && model.count(1) > 5 && random.nextInt(3) > 0;
                return less ? 2 : NAMES[i].equals("begin") && large && random.nextInt(4) > 0 ? 1 : i;
            }
        }
        return 0;
    }

    private int number() {
        int kind = random.nextInt(40);
        if (kind == 0) {
            return -1 - random.nextInt(3);
        }
        if (kind == 1) {
            return random.nextBoolean() ? Integer.MIN_VALUE : Integer.MAX_VALUE;
        }
        return random.nextInt(kind < 4 ? 400 : 9);
    }

    /** Makes most arguments such that the call has an answer. */
    private void bend(int op, int[] a) {
        if (random.nextInt(12) == 0) {
            return;
        }
        int arrows = Math.max(1, model.count(1));
        int paths = model.count(3);
        switch (NAMES[op]) {
            case "addArrow":
                a[0] = random.nextInt(model.count(0));
                a[1] = large && random.nextInt(3) > 0 ? a[0] + 1 : random.nextInt(model.count(0));
                break;
            case "addCell":
            case "separate":
                a[0] = somePath(paths);
                a[1] = one(model.parallelTo(a[0]), a[0]);
                break;
            case "distance":
            case "proof":
                for (int i = 0; i < 10 && (i == 0 || model.equalTo(a[0]).size() == 1); i++) {
                    a[0] = somePath(paths);
                }
                a[1] = one(model.equalTo(a[0]), a[0]);
                a[2] = random.nextInt(Math.max(1, model.distance(a[0], a[1])));
                a[3] = random.nextInt(2);
                break;
            case "append":
                a[0] = letter();
                break;
            case "path":
            case "apply":
            case "imageShare":
                a[0] = random.nextInt(paths);
                a[1] = random.nextInt(NAMES[op].equals("path") ? 7 : 3);
                break;
            case "cell":
                a[0] = random.nextInt(Math.max(1, model.count(2)));
                a[1] = random.nextInt(5);
                break;
            case "setSize":
                a[0] = random.nextInt(model.count(0));
                a[1] = 1 + random.nextInt(4);
                break;
            case "setFunction":
                a[0] = random.nextInt(arrows);
                a[1] = 0;
                for (int i = 0; i < model.sizeAt(model.arrowEnd(a[0], 0)); i++) {
                    a[1] = 4 * a[1] + random.nextInt(model.sizeAt(model.arrowEnd(a[0], 1)));
                }
                break;
            case "arrowOf":
                a[0] = somePath(paths);
                a[1] = random.nextInt(Math.max(1, model.path(a[0], 2)));
                break;
            case "between":
                a[0] = random.nextInt(model.count(0));
                a[1] = random.nextInt(model.count(0));
                break;
            case "isProduct":
                a[0] = random.nextInt(arrows);
                a[1] = one(model.arrowsBetween(model.arrowEnd(a[0], 0), -1), 0);
                break;
            case "isPullback":
                a[0] = random.nextInt(arrows);
                a[1] = one(model.arrowsBetween(model.arrowEnd(a[0], 1), -1), 0);
                a[2] = one(model.arrowsBetween(model.arrowEnd(a[0], 0), -1), 0);
                a[3] = one(model.arrowsBetween(model.arrowEnd(a[2], 1), model.arrowEnd(a[1], 1)), 0);
                break;
            case "isEqualizer":
                a[0] = random.nextInt(arrows);
                a[1] = one(model.arrowsBetween(model.arrowEnd(a[0], 1), -1), 0);
                a[2] = one(model.arrowsBetween(model.arrowEnd(a[1], 0), model.arrowEnd(a[1], 1)), 0);
                break;
            default:
                break;
        }
    }

    /** Longer paths, which have greater numbers, more often. */
    private int somePath(int paths) {
        return paths - 1 - random.nextInt(random.nextInt(paths) + 1);
    }

    private int one(List<Integer> of, int otherwise) {
        return of.isEmpty() ? otherwise : of.get(random.nextInt(of.size()));
    }

    /** Writes a text of some items, mostly a complete one, and loads it. */
    private void writeAndLoad(String call) {
        compare(call + " clearInput", CLEAR, 0, 0, 0, 0);
        int items = 1 + random.nextInt(random.nextInt(6) + 1);
        for (int i = 0; i < 60 && items > 0; i++) {
            String next = model.someContinuation();
            int letter = random.nextInt(40) == 0 || next.isEmpty() ? letter() : next.charAt(random.nextInt(next.length()));
            if (next.indexOf(';') >= 0 && random.nextInt(8) > 0) {
                items--;
                letter = ';';
            }
            if (items > 0) {
                compare(call + " append " + letter, APPEND, letter, 0, 0, 0);
            }
        }
        compare(call + " firstError", FIRST_ERROR, 0, 0, 0, 0);
        compare(call + " load", LOAD, 0, 0, 0, 0);
    }

    private int letter() {
        String next = model.someContinuation();
        if (random.nextInt(25) == 0) {
            return 30 + random.nextInt(100);
        }
        if (next.isEmpty() || random.nextInt(12) == 0) {
            return "01234567abcdefghijklmno=;@ ".charAt(random.nextInt(27));
        }
        return next.charAt(random.nextInt(3) == 0 ? next.length() - 1 : random.nextInt(next.length()));
    }

    /** What an object answers after so many calls is free, so that it is not asked any more. */
    private void compare(String call, int op, int a, int b, int c, int d) {
        if (calls >= Cases.CALLS) {
            return;
        }
        calls++;
        Object want = Checks.outcome(() -> onModel(op, a, b, c, d));
        checks.due(call, Checks.outcome(() -> onReal(op, a, b, c, d)), want);
        if (want instanceof String) {
            throwing[op]++;
        } else {
            answering[op]++;
            boolean above = want instanceof Number && ((Number) want).doubleValue() > 0;
            positive[op] += above || want.equals(true) ? 1 : 0;
        }
    }

    private Object onReal(int op, int a, int b, int c, int d) {
        switch (NAMES[op]) {
            case "begin": return real.begin(a);
            case "addArrow": return real.addArrow(a, b);
            case "dropArrow": return real.dropArrow();
            case "addCell": return real.addCell(a, b);
            case "dropCell": return real.dropCell(a);
            case "append": return real.append(a);
            case "clearInput": return real.clearInput();
            case "firstError": return real.firstError();
            case "load": return real.load();
            case "find": return real.find();
            case "path": return real.path(a, b);
            case "arrowOf": return real.arrowOf(a, b);
            case "between": return real.between(a, b, c % 2 == 0);
            case "distance": return real.distance(a, b);
            case "proof": return real.proof(a, b, c, d);
            case "cell": return real.cell(a, b);
            case "count": return real.count(a);
            case "commuting": return real.commuting();
            case "setSize": return real.setSize(a, b);
            case "setFunction": return real.setFunction(a, b);
            case "apply": return real.apply(a, b);
            case "imageShare": return real.imageShare(a);
            case "separate": return real.separate(a, b);
            case "isProduct": return real.isProduct(a, b);
            case "isPullback": return real.isPullback(a, b, c, d);
            case "isEqualizer": return real.isEqualizer(a, b, c);
            default: return real.digest();
        }
    }

    private Object onModel(int op, int a, int b, int c, int d) {
        switch (NAMES[op]) {
            case "begin": return model.begin(a);
            case "addArrow": return model.addArrow(a, b);
            case "dropArrow": return model.dropArrow();
            case "addCell": return model.addCell(a, b);
            case "dropCell": return model.dropCell(a);
            case "append": return model.append(a);
            case "clearInput": return model.clearInput();
            case "firstError": return model.firstError();
            case "load": return model.load();
            case "find": return model.find();
            case "path": return model.path(a, b);
            case "arrowOf": return model.arrowOf(a, b);
            case "between": return model.between(a, b, c % 2 == 0);
            case "distance": return model.distance(a, b);
            case "proof": return model.proof(a, b, c, d);
            case "cell": return model.cell(a, b);
            case "count": return model.count(a);
            case "commuting": return model.commuting();
            case "setSize": return model.setSize(a, b);
            case "setFunction": return model.setFunction(a, b);
            case "apply": return model.apply(a, b);
            case "imageShare": return model.imageShare(a);
            case "separate": return model.separate(a, b);
            case "isProduct": return model.isProduct(a, b);
            case "isPullback": return model.isPullback(a, b, c, d);
            case "isEqualizer": return model.isEqualizer(a, b, c);
            default: return model.digest();
        }
    }
}
