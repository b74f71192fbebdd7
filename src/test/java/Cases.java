/** What the tests of diagrams share: diagrams, texts and calls, written down shortly. */
abstract class Cases {
    /** How many calls an object is made for; what later ones answer is free. */
    static final int CALLS = 512;

    static final int LOW = Integer.MIN_VALUE;
    static final int HIGH = Integer.MAX_VALUE;
    static final Class<IndexOutOfBoundsException> INDEX = IndexOutOfBoundsException.class;
    static final Class<IllegalArgumentException> ARGUMENT = IllegalArgumentException.class;
    static final Class<IllegalStateException> STATE = IllegalStateException.class;

    /** 300 paths, of 13 arrows. */
    static final String PATHS_300 = "01;12;12;12;23;23;23;34;34;34;34;45;45";

    /** 12 arrows among 6 objects: 234 paths; one more from 3 to 4 makes 300, one from 4 to 5 makes 301. */
    static final String PATHS_234 = "01;12;12;12;23;23;23;34;34;34;45;45";

    /** 13 arrows among 7 objects: 278 paths; one more from 2 to 5 makes 300, one from 0 to 2 makes 301. */
    static final String PATHS_278 = "01;01;01;01;12;12;23;23;34;34;45;45;56";

    /** 14 arrows between two objects. */
    static final String ARROWS_14 = "01;01;01;01;01;01;01;01;01;01;01;01;01;01";

    /** A call of the face on an object that is not made yet. */
    interface Ask {
        Object of(ArrowDiagrams x);
    }

    /** Calls that make a new object such as a test needs it. */
    interface Start {
        ArrowDiagrams make();
    }

    final Checks checks = new Checks();

    void due(String what, long got, long want) {
        checks.due(what, got, want);
    }

    void due(String what, boolean got, boolean want) {
        checks.due(what, got, want);
    }

    /** The call throws the exception, and leaves the digest as it was. */
    void refused(String what, ArrowDiagrams x, Class<? extends RuntimeException> want, Checks.Call call) {
        long before = x.digest();
        checks.throwsA(what, want, call);
        due(what + " changes nothing", x.digest(), before);
    }

    /** A diagram with arrows written as in a text: "01;12". */
    static ArrowDiagrams diagram(int objects, String arrows) {
        ArrowDiagrams x = new ArrowDiagrams();
        x.begin(objects);
        for (int i = 0; i < arrows.length(); i += 3) {
            x.addArrow(arrows.charAt(i) - '0', arrows.charAt(i + 1) - '0');
        }
        return x;
    }

    static void write(ArrowDiagrams x, String text) {
        for (char c : text.toCharArray()) {
            x.append(c);
        }
    }

    /** The number of the path with these letters; the buffer is empty behind it. */
    static int number(ArrowDiagrams x, String letters) {
        x.clearInput();
        write(x, letters);
        int found = x.find();
        x.clearInput();
        return found;
    }

    static int addCell(ArrowDiagrams x, String first, String second) {
        return x.addCell(number(x, first), number(x, second));
    }

    static int errorOf(ArrowDiagrams x, String text) {
        x.clearInput();
        write(x, text);
        return x.firstError();
    }

    /** Promise 28: the hash of these values. */
    static long fold(long... values) {
        long hash = 1987;
        for (long value : values) {
            hash = 31 * hash + value;
        }
        return hash;
    }
}
