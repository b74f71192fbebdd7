import java.util.List;
import java.util.Random;

/** Long runs of calls, chosen with fixed seeds, whose answers and states are compared with the model. */
public final class ModelTest {
    private static final String[] NAMES = {
        "begin", "addArrow", "dropArrow", "addCell", "dropCell", "append", "clearInput", "firstError", "load",
        "find", "path", "arrowOf", "between", "distance", "proof", "cell", "count", "commuting", "setSize",
        "setFunction", "apply", "imageShare", "separate", "isProduct", "isPullback", "isEqualizer", "digest"
    };
    private static final int[] WEIGHTS = {
        1, 40, 3, 30, 4, 60, 3, 10, 12,
        6, 20, 10, 10, 30, 40, 20, 10, 5, 6,
        30, 15, 10, 8, 8, 12, 10, 5
    };

    private final Checks checks;
    private final Random random;
    private final boolean large;
    private final ArrowDiagrams real = new ArrowDiagrams();
    private final Model model = new Model();
    private final int[] throwing = new int[NAMES.length];
    private final int[] answering = new int[NAMES.length];

    private ModelTest(Checks checks, int seed, boolean large) {
        this.checks = checks;
        this.random = new Random(seed);
        this.large = large;
    }

    public static void main(String[] args) {
        Checks checks = new Checks();
        int[] answers = new int[NAMES.length];
        int[] exceptions = new int[NAMES.length];
        for (int seed = 0; seed < 160; seed++) {
            ModelTest test = new ModelTest(checks, seed, seed % 8 == 7);
            test.run("seed " + seed);
            for (int i = 0; i < NAMES.length; i++) {
                answers[i] += test.answering[i];
                exceptions[i] += test.throwing[i];
            }
        }
        for (int i = 0; i < NAMES.length; i++) {
            System.out.println(NAMES[i] + ": " + answers[i] + " answers, " + exceptions[i] + " exceptions");
            checks.due(NAMES[i] + " has been tried", answers[i] > 0, true);
        }
        checks.finish();
    }

    private void run(String name) {
        int first = large ? 5 + random.nextInt(4) : 2 + random.nextInt(5);
        compare(name + " first", 0, first, 0, 0, 0);
        for (int i = 0; i < 500; i++) {
            int op = operation();
            int[] a = {number(), number(), number(), number()};
            bend(op, a);
            String call = name + " call " + i + " " + NAMES[op] + "(" + a[0] + ", " + a[1] + ", " + a[2] + ", " + a[3] + ")";
            compare(call, op, a[0], a[1], a[2], a[3]);
            if (!large || i % 8 == 0) {
                checks.due(call + " digest", real.digest(), model.digest());
            }
        }
    }

    private int operation() {
        int total = 0;
        for (int weight : WEIGHTS) {
            total += weight;
        }
        int chosen = random.nextInt(total);
        for (int i = 0; i < WEIGHTS.length; i++) {
            chosen -= WEIGHTS[i];
            if (chosen < 0) {
                // a small diagram stays small for longer, so that functions can be searched
                boolean less = NAMES[i].equals("addArrow") && !large && model.count(1) > 5 && random.nextInt(3) > 0;
                return less ? 2 : NAMES[i].equals("begin") && large && random.nextInt(4) > 0 ? 1 : i;
            }
        }
        return 0;
    }

    private int number() {
        int kind = random.nextInt(40);
        if (kind == 0) {
            return -1 - random.nextInt(3);
        }
        if (kind == 1) {
            return random.nextBoolean() ? Integer.MIN_VALUE : Integer.MAX_VALUE;
        }
        return random.nextInt(kind < 4 ? 400 : 9);
    }

    /** Makes most arguments such that the call has an answer. */
    private void bend(int op, int[] a) {
        if (random.nextInt(12) == 0) {
            return;
        }
        int arrows = Math.max(1, model.count(1));
        int paths = model.count(3);
        switch (NAMES[op]) {
            case "addArrow":
                a[0] = random.nextInt(model.count(0));
                a[1] = large && random.nextInt(3) > 0 ? a[0] + 1 : random.nextInt(model.count(0));
                break;
            case "addCell":
            case "distance":
            case "proof":
            case "separate":
                a[0] = paths - 1 - random.nextInt(random.nextInt(paths) + 1);
                List<Integer> parallel = model.parallelTo(a[0]);
                a[1] = parallel.get(random.nextInt(parallel.size()));
                a[2] = random.nextInt(3);
                a[3] = random.nextInt(2);
                break;
            case "append":
                a[0] = letter();
                break;
            case "path":
            case "arrowOf":
            case "apply":
            case "imageShare":
                a[0] = random.nextInt(paths);
                a[1] = random.nextInt(NAMES[op].equals("path") ? 7 : 3);
                break;
            case "cell":
                a[0] = random.nextInt(Math.max(1, model.count(2)));
                a[1] = random.nextInt(5);
                break;
            case "setSize":
                a[0] = random.nextInt(model.count(0));
                a[1] = 1 + random.nextInt(4);
                break;
            case "setFunction":
                a[0] = random.nextInt(arrows);
                a[1] = random.nextInt(random.nextBoolean() ? 6 : 256);
                break;
            case "isProduct":
            case "isPullback":
            case "isEqualizer":
                for (int i = 0; i < 4; i++) {
                    a[i] = random.nextInt(arrows);
                }
                break;
            default:
                break;
        }
    }

    private int letter() {
        String next = model.someContinuation();
        if (random.nextInt(25) == 0) {
            return 30 + random.nextInt(100);
        }
        if (next.isEmpty() || random.nextInt(12) == 0) {
            return "01234567abcdefghijklmno=;@ ".charAt(random.nextInt(27));
        }
        return next.charAt(random.nextInt(3) == 0 ? next.length() - 1 : random.nextInt(next.length()));
    }

    private void compare(String call, int op, int a, int b, int c, int d) {
        Object want = Checks.outcome(() -> onModel(op, a, b, c, d));
        checks.due(call, Checks.outcome(() -> onReal(op, a, b, c, d)), want);
        if (want instanceof String) {
            throwing[op]++;
        } else {
            answering[op]++;
        }
    }

    private Object onReal(int op, int a, int b, int c, int d) {
        switch (NAMES[op]) {
            case "begin": return real.begin(a);
            case "addArrow": return real.addArrow(a, b);
            case "dropArrow": return real.dropArrow();
            case "addCell": return real.addCell(a, b);
            case "dropCell": return real.dropCell(a);
            case "append": return real.append(a);
            case "clearInput": return real.clearInput();
            case "firstError": return real.firstError();
            case "load": return real.load();
            case "find": return real.find();
            case "path": return real.path(a, b);
            case "arrowOf": return real.arrowOf(a, b);
            case "between": return real.between(a, b, c % 2 == 0);
            case "distance": return real.distance(a, b);
            case "proof": return real.proof(a, b, c, d);
            case "cell": return real.cell(a, b);
            case "count": return real.count(a);
            case "commuting": return real.commuting();
            case "setSize": return real.setSize(a, b);
            case "setFunction": return real.setFunction(a, b);
            case "apply": return real.apply(a, b);
            case "imageShare": return real.imageShare(a);
            case "separate": return real.separate(a, b);
            case "isProduct": return real.isProduct(a, b);
            case "isPullback": return real.isPullback(a, b, c, d);
            case "isEqualizer": return real.isEqualizer(a, b, c);
            default: return real.digest();
        }
    }

    private Object onModel(int op, int a, int b, int c, int d) {
        switch (NAMES[op]) {
            case "begin": return model.begin(a);
            case "addArrow": return model.addArrow(a, b);
            case "dropArrow": return model.dropArrow();
            case "addCell": return model.addCell(a, b);
            case "dropCell": return model.dropCell(a);
            case "append": return model.append(a);
            case "clearInput": return model.clearInput();
            case "firstError": return model.firstError();
            case "load": return model.load();
            case "find": return model.find();
            case "path": return model.path(a, b);
            case "arrowOf": return model.arrowOf(a, b);
            case "between": return model.between(a, b, c % 2 == 0);
            case "distance": return model.distance(a, b);
            case "proof": return model.proof(a, b, c, d);
            case "cell": return model.cell(a, b);
            case "count": return model.count(a);
            case "commuting": return model.commuting();
            case "setSize": return model.setSize(a, b);
            case "setFunction": return model.setFunction(a, b);
            case "apply": return model.apply(a, b);
            case "imageShare": return model.imageShare(a);
            case "separate": return model.separate(a, b);
            case "isProduct": return model.isProduct(a, b);
            case "isPullback": return model.isPullback(a, b, c, d);
            case "isEqualizer": return model.isEqualizer(a, b, c);
            default: return model.digest();
        }
    }
}
