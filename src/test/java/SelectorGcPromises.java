// Each promise of the document by itself: ordinary inputs, the edges that the document names, and wrong inputs.
// No object is used for more than 512 calls, as nothing is promised after that.
public final class SelectorGcPromises {
    private static final int MIN = Integer.MIN_VALUE;
    private static final int MAX = Integer.MAX_VALUE;
    private static final int[] OUTSIDE_SEQUENCES = {-1, 6, 7, 100, MIN, MAX};
    private static final int[] OUTSIDE_PLACES = {-1, 16, 17, 20, 21, 100, MIN, MAX};
    private static final int[] OUTSIDE_KINDS = {-1, -2, 9, 10, 100, MIN, MAX};

    private static int wrong = 0;

    public static void main(String[] args) {
        promise1NewObject();
        promise2Define();
        promise2Refused();
        promise3Ready();
        promise4ElementOfEachKind();
        promise4Wraps();
        promise4NotReady();
        promise5Known();
        promise6FirstAbove();
        promise7Agree();
        promise8Kind();
        promise9Reset();
        promise10RefusedChangesNothing();
        promise10BadBeforeNone();
        longChainOfTails();
        objectsAreApart();
        holdsThrough512Calls();
        exampleOfReadme();
        System.out.println(wrong == 0 ? "all answers are as due" : wrong + " answers are not as due");
        if (wrong != 0) {
            System.exit(1);
        }
    }

    private static void promise1NewObject() {
        checkAllZeros("new object", new SelectorGc());
    }

    private static void promise2Define() {
        for (int s = 0; s < 6; s++) {
            for (int kind = 0; kind <= 8; kind++) {
                SelectorGc x = new SelectorGc();
                for (int a = 0; a < 6; a++) {
                    for (int b = 0; b < 6; b++) {
                        due(call("define", s, kind, a, b), x.define(s, kind, a, b), true);
                        due(call("kind after define", s, kind, a, b), x.kind(s), kind);
                    }
                }
            }
        }
        SelectorGc x = new SelectorGc();
        int[] free = {-1, 6, MIN, MAX};
        for (int n : free) {
            due(call("define COUNT", n), x.define(0, SelectorGc.COUNT, n, n), true);
            due(call("define CONS", n), x.define(0, SelectorGc.CONS, n, 5), true);
            due(call("define TAIL", n), x.define(0, SelectorGc.TAIL, 5, n), true);
            due(call("define SCALE", n), x.define(0, SelectorGc.SCALE, n, 5), true);
            due(call("define SCAN", n), x.define(0, SelectorGc.SCAN, 5, n), true);
        }
        definedAnewChangesOthers();
    }

    private static void definedAnewChangesOthers() {
        SelectorGc x = new SelectorGc();
        x.define(1, SelectorGc.COUNT, 5, 1);
        x.define(0, SelectorGc.SCALE, 2, 1);
        elements("SCALE of COUNT 5 1", x, 0, 10, 12, 14);
        x.define(1, SelectorGc.COUNT, 7, 0);
        elements("SCALE of COUNT 7 0", x, 0, 14, 14, 14);
        x.define(0, SelectorGc.SCALE, 3, 1);
        elements("SCALE 3 of COUNT 7 0", x, 0, 21, 21, 21);
        x.define(0, SelectorGc.MERGE, 1, 2);
        elements("MERGE of 7s and 0s", x, 0, 0, 0, 0);
        x.define(2, SelectorGc.COUNT, 6, 1);
        elements("MERGE of 7s and 6, 7, ..", x, 0, 6, 7, 7, 7);
    }

    private static void promise2Refused() {
        SelectorGc x = new SelectorGc();
        for (int s : OUTSIDE_SEQUENCES) {
            for (int kind = 0; kind <= 8; kind++) {
                due(call("define", s, kind, 0, 0), x.define(s, kind, 0, 0), false);
                due(call("define", 0, kind, s, 0), x.define(0, kind, s, 0), !"234678".contains("" + kind));
                due(call("define", 0, kind, 0, s), x.define(0, kind, 0, s), !"134578".contains("" + kind));
            }
        }
        for (int kind : OUTSIDE_KINDS) {
            due(call("define", 0, kind, 0, 0), x.define(0, kind, 0, 0), false);
        }
    }

    private static void promise3Ready() {
        SelectorGc x = new SelectorGc();
        x.define(0, SelectorGc.CONS, 4, 1);
        x.define(1, SelectorGc.TAIL, 0, 0);
        due("CONS that waits for its own tail: ready(0, 0)", x.ready(0, 0), true);
        due("CONS that waits for its own tail: ready(0, 1)", x.ready(0, 1), false);
        due("tail of that: ready(1, 0)", x.ready(1, 0), false);
        for (int k = 0; k < 16; k++) {
            due(call("ready", 2, k), x.ready(2, k), true);
        }
        for (int s : OUTSIDE_SEQUENCES) {
            for (int k = -1; k <= 16; k++) {
                due(call("ready", s, k), x.ready(s, k), false);
            }
        }
        for (int k : OUTSIDE_PLACES) {
            for (int s = 0; s < 6; s++) {
                due(call("ready", s, k), x.ready(s, k), false);
            }
        }
    }

    private static void promise4ElementOfEachKind() {
        SelectorGc x = new SelectorGc();
        x.define(0, SelectorGc.COUNT, 3, 4);
        elements("COUNT 3 4", x, 0, 3, 7, 11, 15, 19, 23, 27, 31, 35, 39, 43, 47, 51, 55, 59, 63);
        x.define(1, SelectorGc.COUNT, 10, -1);
        elements("COUNT 10 -1", x, 1, 10, 9, 8, 7, 6, 5, 4, 3, 2, 1, 0, -1, -2, -3, -4, -5);
        x.define(2, SelectorGc.CONS, 0, 1);
        elements("CONS 0 1", x, 2, 0, 10, 9, 8, 7, 6, 5, 4, 3, 2, 1, 0, -1, -2, -3, -4);
        x.define(2, SelectorGc.TAIL, 1, 0);
        elements("TAIL 1", x, 2, 9, 8, 7, 6, 5, 4, 3, 2, 1, 0, -1, -2, -3, -4, -5, -6);
        x.define(2, SelectorGc.ADD, 0, 1);
        elements("ADD 0 1", x, 2, 13, 16, 19, 22, 25, 28, 31, 34, 37, 40, 43, 46, 49, 52, 55, 58);
        x.define(2, SelectorGc.MUL, 0, 1);
        elements("MUL 0 1", x, 2, 30, 63, 88, 105, 114, 115, 108, 93, 70, 39, 0, -47, -102, -165, -236, -315);
        x.define(2, SelectorGc.SCALE, 0, 1);
        elements("SCALE 0 1", x, 2, 0, 0, 0, 0, 0, 0, 0, 0, 0, 0, 0, 0, 0, 0, 0, 0);
        x.define(2, SelectorGc.SCALE, -3, 1);
        elements("SCALE -3 1", x, 2, -30, -27, -24, -21, -18, -15, -12, -9, -6, -3, 0, 3, 6, 9, 12, 15);
        x.define(2, SelectorGc.SCAN, 1, 0);
        elements("SCAN 1", x, 2, 10, 19, 27, 34, 40, 45, 49, 52, 54, 55, 55, 54, 52, 49, 45, 40);
        x.define(2, SelectorGc.WEAVE, 0, 1);
        elements("WEAVE 0 1", x, 2, 3, 10, 7, 9, 11, 8, 15, 7, 19, 6, 23, 5, 27, 4, 31, 3);
        x.define(1, SelectorGc.COUNT, 1, 3);
        x.define(2, SelectorGc.MERGE, 0, 1);
        elements("MERGE 0 1", x, 2, 1, 3, 4, 7, 10, 11, 13, 15, 16, 19, 22, 23, 25, 27, 28, 31);
        x.define(2, SelectorGc.MERGE, 1, 0);
        elements("MERGE 1 0", x, 2, 1, 3, 4, 7, 10, 11, 13, 15, 16, 19, 22, 23, 25, 27, 28, 31);
        x.define(2, SelectorGc.MERGE, 1, 1);
        elements("MERGE 1 1", x, 2, 1, 4, 7, 10, 13, 16, 19, 22, 25, 28, 31, 34, 37, 40, 43, 46);
    }

    private static void promise4Wraps() {
        SelectorGc x = new SelectorGc();
        x.define(0, SelectorGc.COUNT, MAX, 1);
        elements("COUNT MAX 1", x, 0, MAX, MIN, MIN + 1);
        x.define(1, SelectorGc.COUNT, MIN, MIN);
        elements("COUNT MIN MIN", x, 1, MIN, 0, MIN, 0);
        x.define(2, SelectorGc.ADD, 0, 1);
        elements("ADD wraps", x, 2, -1, MIN, 1);
        x.define(2, SelectorGc.MUL, 0, 0);
        elements("MUL wraps", x, 2, 1, 0, 1);
        x.define(2, SelectorGc.SCALE, MAX, 0);
        elements("SCALE wraps", x, 2, 1, MIN, -1);
        x.define(2, SelectorGc.SCAN, 0, 0);
        elements("SCAN wraps", x, 2, MAX, -1, MIN);
        x.define(1, SelectorGc.COUNT, MIN, 1);
        x.define(2, SelectorGc.MERGE, 0, 1);
        elements("MERGE compares signed", x, 2, MIN, MIN + 1, MIN + 2);
    }

    private static void promise4NotReady() {
        SelectorGc x = new SelectorGc();
        x.define(0, SelectorGc.COUNT, 5, 5);
        x.define(1, SelectorGc.CONS, 9, 2);
        x.define(2, SelectorGc.TAIL, 1, 0);
        elements("CONS that waits for its own tail", x, 1, 9, 0, 0, 0);
        elements("TAIL that waits for itself", x, 2, 0, 0, 0, 0);
        for (int s : OUTSIDE_SEQUENCES) {
            due(call("element", s, 0), x.element(s, 0), 0);
            due(call("element", s, 15), x.element(s, 15), 0);
        }
        for (int k : OUTSIDE_PLACES) {
            due(call("element", 0, k), x.element(0, k), 0);
        }
        x.define(0, SelectorGc.COUNT, 5, 5);
        x.define(0, SelectorGc.TAIL, 0, 0);
        elements("an old value is not kept", x, 0, 0, 0, 0, 0);
    }

    private static void promise5Known() {
        SelectorGc x = new SelectorGc();
        int[] needItself = {SelectorGc.TAIL, SelectorGc.ADD, SelectorGc.MUL, SelectorGc.SCALE, SelectorGc.SCAN,
            SelectorGc.WEAVE, SelectorGc.MERGE};
        for (int kind : needItself) {
            x.define(3, kind, 3, 3);
            due(call("known of a sequence that needs itself", kind), x.known(3), 0);
        }
        x.define(3, SelectorGc.CONS, 3, 3);
        due("known of CONS of itself", x.known(3), 16);
        x.define(0, SelectorGc.TAIL, 3, 0);
        due("known of TAIL of CONS of itself", x.known(0), 16);
        x.define(3, SelectorGc.WEAVE, 1, 3);
        due("known of WEAVE 1 with itself second", x.known(3), 16);
        x.define(3, SelectorGc.WEAVE, 3, 1);
        due("known of WEAVE with itself first", x.known(3), 0);
        partlyKnown();
        for (int s : OUTSIDE_SEQUENCES) {
            due(call("known", s), x.known(s), SelectorGc.BAD);
        }
    }

    // Sequence 0 has two elements (7 and 8) and nothing after them.
    private static SelectorGc withTwoElements() {
        SelectorGc x = new SelectorGc();
        x.define(0, SelectorGc.CONS, 7, 1);
        x.define(1, SelectorGc.CONS, 8, 2);
        x.define(2, SelectorGc.TAIL, 2, 0);
        x.define(3, SelectorGc.COUNT, 1, 1);
        return x;
    }

    private static void partlyKnown() {
        SelectorGc x = withTwoElements();
        due("known of two elements", x.known(0), 2);
        due("known of one element", x.known(1), 1);
        due("known of none", x.known(2), 0);
        int[][] cases = {
            {SelectorGc.CONS, 1, 0, 3}, {SelectorGc.TAIL, 0, 0, 1}, {SelectorGc.ADD, 0, 3, 2}, {SelectorGc.ADD, 3, 0, 2},
            {SelectorGc.MUL, 0, 3, 2}, {SelectorGc.MUL, 3, 0, 2}, {SelectorGc.SCALE, 0, 0, 2}, {SelectorGc.SCAN, 0, 0, 2},
            {SelectorGc.WEAVE, 0, 3, 4}, {SelectorGc.WEAVE, 3, 0, 5}, {SelectorGc.WEAVE, 3, 2, 1},
            {SelectorGc.MERGE, 0, 3, 8}, {SelectorGc.MERGE, 3, 0, 8}, {SelectorGc.MERGE, 0, 0, 2}, {SelectorGc.MERGE, 2, 3, 0},
        };
        for (int[] c : cases) {
            x.define(4, c[0], c[1], c[2]);
            due(call("known over two elements", c[0], c[1], c[2]), x.known(4), c[3]);
            due(call("ready at the last", c[0], c[1], c[2]), x.ready(4, c[3] - 1), c[3] > 0);
            due(call("ready after the last", c[0], c[1], c[2]), x.ready(4, c[3]), false);
        }
    }

    private static void promise6FirstAbove() {
        SelectorGc x = withTwoElements();
        due("firstAbove(0, 6)", x.firstAbove(0, 6), 0);
        due("firstAbove(0, 7)", x.firstAbove(0, 7), 1);
        due("firstAbove(0, 8)", x.firstAbove(0, 8), SelectorGc.NONE);
        due("firstAbove(2, -1)", x.firstAbove(2, -1), SelectorGc.NONE);
        due("firstAbove(2, MIN)", x.firstAbove(2, MIN), SelectorGc.NONE);
        due("firstAbove(3, 15)", x.firstAbove(3, 15), 15);
        due("firstAbove(3, 16)", x.firstAbove(3, 16), SelectorGc.NONE);
        due("firstAbove(3, MIN)", x.firstAbove(3, MIN), 0);
        due("firstAbove(3, MAX)", x.firstAbove(3, MAX), SelectorGc.NONE);
        x.define(4, SelectorGc.COUNT, 5, -1);
        due("firstAbove(4, 4)", x.firstAbove(4, 4), 0);
        due("firstAbove(4, 5)", x.firstAbove(4, 5), SelectorGc.NONE);
        x.define(4, SelectorGc.COUNT, MIN, 1);
        due("firstAbove(4, MIN)", x.firstAbove(4, MIN), 1);
        for (int s : OUTSIDE_SEQUENCES) {
            due(call("firstAbove", s, 0), x.firstAbove(s, 0), SelectorGc.BAD);
        }
    }

    private static void promise7Agree() {
        SelectorGc x = withTwoElements();
        due("agree(3, 3)", x.agree(3, 3), 16);
        due("agree(0, 0)", x.agree(0, 0), 2);
        due("agree(2, 2)", x.agree(2, 2), 0);
        due("agree(2, 5): nothing against zeros", x.agree(2, 5), 0);
        due("agree(5, 2): zeros against nothing", x.agree(5, 2), 0);
        due("agree(0, 1): shifted", x.agree(0, 1), 0);
        x.define(4, SelectorGc.COUNT, 7, 1);
        due("agree(0, 4)", x.agree(0, 4), 2);
        due("agree(4, 0)", x.agree(4, 0), 2);
        x.define(4, SelectorGc.COUNT, 31, -1);
        due("agree(3, 4): equal at 15 alone", x.agree(3, 4), 1);
        x.define(4, SelectorGc.COUNT, 33, -1);
        due("agree(3, 4): equal at 16 alone", x.agree(3, 4), 0);
        for (int s : OUTSIDE_SEQUENCES) {
            due(call("agree", s, 0), x.agree(s, 0), SelectorGc.BAD);
            due(call("agree", 0, s), x.agree(0, s), SelectorGc.BAD);
            due(call("agree", s, s), x.agree(s, s), SelectorGc.BAD);
        }
    }

    private static void promise8Kind() {
        SelectorGc x = new SelectorGc();
        for (int kind = 0; kind <= 8; kind++) {
            x.define(kind % 6, kind, 0, 0);
            due(call("kind", kind % 6), x.kind(kind % 6), kind);
        }
        due("kind(3)", x.kind(3), SelectorGc.ADD);
        due("kind(5)", x.kind(5), SelectorGc.SCALE);
        for (int s : OUTSIDE_SEQUENCES) {
            due(call("kind", s), x.kind(s), SelectorGc.BAD);
        }
    }

    private static void promise9Reset() {
        SelectorGc x = withTwoElements();
        x.define(4, SelectorGc.MERGE, 0, 3);
        x.define(5, SelectorGc.COUNT, 9, 9);
        x.reset();
        checkAllZeros("after reset", x);
        x.reset();
        checkAllZeros("after a second reset", x);
        x.define(0, SelectorGc.MERGE, 1, 2);
        x.define(1, SelectorGc.COUNT, -2, 1);
        elements("MERGE after reset", x, 0, -2, -1, 0, 0, 0);
    }

    private static void promise10RefusedChangesNothing() {
        for (int n : OUTSIDE_SEQUENCES) {
            SelectorGc x = withAllDefined();
            String before = answers(x);
            refusedDefines(x, n);
            x.ready(n, 0);
            x.element(n, 0);
            x.known(n);
            x.firstAbove(n, 0);
            x.agree(n, 0);
            x.agree(0, n);
            x.kind(n);
            due(call("answers unchanged after refused calls with", n), answers(x).equals(before), true);
        }
        for (int n : OUTSIDE_KINDS) {
            SelectorGc x = withAllDefined();
            String before = answers(x);
            x.define(3, n, 0, 0);
            due(call("answers unchanged after kind", n), answers(x).equals(before), true);
        }
        for (int k : OUTSIDE_PLACES) {
            SelectorGc x = withAllDefined();
            String before = answers(x);
            x.ready(3, k);
            x.element(3, k);
            due(call("answers unchanged after place", k), answers(x).equals(before), true);
        }
        SelectorGc x = withAllDefined();
        String before = answers(x);
        x.define(3, SelectorGc.COUNT, 2, 2);
        due("an accepted call does change the answers", answers(x).equals(before), false);
    }

    private static SelectorGc withAllDefined() {
        SelectorGc x = withTwoElements();
        x.define(4, SelectorGc.MERGE, 0, 3);
        x.define(5, SelectorGc.WEAVE, 3, 0);
        return x;
    }

    private static void refusedDefines(SelectorGc x, int n) {
        for (int kind = 0; kind <= 8; kind++) {
            x.define(n, kind, 0, 0);
            x.define(n, kind, n, n);
            if (kind != SelectorGc.COUNT) {
                x.define(3, kind, n, n);
            }
        }
        x.define(3, SelectorGc.CONS, 1, n);
        x.define(3, SelectorGc.SCALE, 1, n);
        x.define(3, SelectorGc.ADD, 1, n);
        x.define(3, SelectorGc.ADD, n, 1);
    }

    private static void promise10BadBeforeNone() {
        SelectorGc x = new SelectorGc();
        for (int s : OUTSIDE_SEQUENCES) {
            due(call("firstAbove", s, MAX), x.firstAbove(s, MAX), SelectorGc.BAD);
        }
        due("firstAbove(0, MAX)", x.firstAbove(0, MAX), SelectorGc.NONE);
    }

    // Five TAILs in a row reach element 20, in whatever order the sequences stand.
    private static void longChainOfTails() {
        SelectorGc up = new SelectorGc();
        SelectorGc down = new SelectorGc();
        for (int s = 0; s < 5; s++) {
            up.define(s, SelectorGc.TAIL, s + 1, 0);
            down.define(5 - s, SelectorGc.TAIL, 4 - s, 0);
        }
        up.define(5, SelectorGc.COUNT, 100, 1);
        down.define(0, SelectorGc.COUNT, 100, 1);
        due("chain upwards, known", up.known(0), 16);
        due("chain upwards, element", up.element(0, 15), 120);
        due("chain downwards, known", down.known(5), 16);
        due("chain downwards, element", down.element(5, 15), 120);
        due("end of the chain, known", up.known(5), 16);
    }

    private static void objectsAreApart() {
        SelectorGc x = new SelectorGc();
        SelectorGc y = new SelectorGc();
        x.define(0, SelectorGc.COUNT, 1, 1);
        checkAllZeros("another object", y);
        y.reset();
        elements("not reset by another object", x, 0, 1, 2, 3);
    }

    private static void holdsThrough512Calls() {
        SelectorGc x = new SelectorGc();
        for (int n = 0; n < 256; n++) {
            due(call("define in a long run", n), x.define(n % 6, SelectorGc.COUNT, n, 1), true);
            due(call("element in a long run", n), x.element(n % 6, 15), n + 15);
        }
    }

    // Call by call what README.md shows, so that it cannot go stale unseen.
    private static void exampleOfReadme() {
        SelectorGc x = new SelectorGc();
        x.define(0, SelectorGc.CONS, 1, 1);
        x.define(1, SelectorGc.CONS, 1, 2);
        x.define(2, SelectorGc.ADD, 0, 1);
        due("README: element(0, 5)", x.element(0, 5), 8);
        due("README: known(0)", x.known(0), 16);
        due("README: firstAbove(0, 100)", x.firstAbove(0, 100), 11);
        x.define(3, SelectorGc.TAIL, 0, 0);
        due("README: agree(3, 1)", x.agree(3, 1), 16);
        x.define(4, SelectorGc.SCAN, 4, 0);
        due("README: ready(4, 0)", x.ready(4, 0), false);
        due("README: define(6, COUNT, 0, 0)", x.define(6, SelectorGc.COUNT, 0, 0), false);
        due("README: known(6)", x.known(6), -1);
    }

    private static void checkAllZeros(String when, SelectorGc x) {
        for (int s = 0; s < 6; s++) {
            due(call(when + ": kind", s), x.kind(s), SelectorGc.COUNT);
            due(call(when + ": known", s), x.known(s), 16);
            due(call(when + ": agree", s, 0), x.agree(s, 0), 16);
            due(call(when + ": firstAbove", s, -1), x.firstAbove(s, -1), 0);
            due(call(when + ": firstAbove", s, 0), x.firstAbove(s, 0), SelectorGc.NONE);
            for (int k = 0; k < 16; k++) {
                due(call(when + ": ready", s, k), x.ready(s, k), true);
                due(call(when + ": element", s, k), x.element(s, k), 0);
            }
        }
    }

    private static String answers(SelectorGc x) {
        StringBuilder text = new StringBuilder();
        for (int s = 0; s < 6; s++) {
            text.append(x.kind(s)).append(' ').append(x.known(s)).append(':');
            for (int k = 0; k < 16; k++) {
                text.append(x.ready(s, k)).append(x.element(s, k)).append(' ');
            }
        }
        return text.toString();
    }

    private static void elements(String what, SelectorGc x, int s, int... want) {
        for (int k = 0; k < want.length; k++) {
            due(what + ": " + call("element", s, k), x.element(s, k), want[k]);
        }
    }

    private static String call(String name, int... numbers) {
        StringBuilder text = new StringBuilder(name).append('(');
        for (int n = 0; n < numbers.length; n++) {
            text.append(n == 0 ? "" : ", ").append(numbers[n]);
        }
        return text.append(')').toString();
    }

    private static void due(String what, boolean got, boolean want) {
        due(what, got ? 1 : 0, want ? 1 : 0);
    }

    private static void due(String what, int got, int want) {
        if (got != want) {
            wrong++;
            System.out.println(what + " answered " + got + ", due is " + want);
        }
    }
}
