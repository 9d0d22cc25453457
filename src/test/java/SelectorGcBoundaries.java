// One test for each sentence of the document that names a boundary case. A test carries its sentence as its label, which
// stands before every answer that is not as due. No object is used for more than 512 calls, as nothing is promised after.
public final class SelectorGcBoundaries {
    private static final int COUNT = SelectorGc.COUNT;
    private static final int CONS = SelectorGc.CONS;
    private static final int TAIL = SelectorGc.TAIL;
    private static final int ADD = SelectorGc.ADD;
    private static final int MUL = SelectorGc.MUL;
    private static final int SCALE = SelectorGc.SCALE;
    private static final int SCAN = SelectorGc.SCAN;
    private static final int WEAVE = SelectorGc.WEAVE;
    private static final int MERGE = SelectorGc.MERGE;
    private static final int BAD = SelectorGc.BAD;
    private static final int NONE = SelectorGc.NONE;
    private static final int MIN = Integer.MIN_VALUE;
    private static final int MAX = Integer.MAX_VALUE;

    private static final int[] NO_SEQUENCE = {-1, 6, -2, 7, 16, MIN, MAX};
    private static final int[] NO_KIND = {-1, 9, -2, 10, MIN, MAX};
    private static final int[] NO_PLACE = {-1, 16, -2, 17, 20, 21, 22, 126, MIN, MAX};

    // What finiteObject(n) makes.
    private static final int FREE = 0;
    private static final int FREE_TOO = 1;
    private static final int FINITE = 2;
    private static final int ONE_ELEMENT = 3;
    private static final int NUMBERS = 4;
    private static final int EMPTY = 5;

    private static String label = "";
    private static int tests = 0;
    private static int wrong = 0;

    public static void main(String[] args) {
        terms();
        readyRules();
        promises1And2();
        promises3To5();
        promises6To8();
        promises9And10();
        System.out.println(tests + " boundary tests, " + wrong + " answers not as due");
        if (wrong != 0) {
            System.exit(1);
        }
    }

    private static void terms() {
        test("used for at most 512 calls: the 512th is still promised", SelectorGcBoundaries::the512thCall);
        test("there are six sequences, 0 to 5", SelectorGcBoundaries::sixSequences);
        test("arithmetic wraps: COUNT", SelectorGcBoundaries::countWraps);
        test("arithmetic wraps: ADD", SelectorGcBoundaries::addWraps);
        test("arithmetic wraps: MUL", SelectorGcBoundaries::mulWraps);
        test("arithmetic wraps: SCALE", SelectorGcBoundaries::scaleWraps);
        test("arithmetic wraps: SCAN", SelectorGcBoundaries::scanWraps);
        test("COUNT: a, a + b, a + 2 * b", SelectorGcBoundaries::countEnds);
        test("CONS: a, then all elements of b", SelectorGcBoundaries::consEnds);
        test("TAIL: a without the first one", SelectorGcBoundaries::tailEnds);
        test("ADD, MUL, SCALE: for every k", SelectorGcBoundaries::addMulAndScaleEnds);
        test("SCAN: a[0] + .. + a[k]", SelectorGcBoundaries::scanEnds);
        test("WEAVE: a[0], b[0], a[1], b[1], a[2]", SelectorGcBoundaries::weaveEnds);
        test("MERGE: both places 0 in the beginning", SelectorGcBoundaries::mergeBegins);
        test("MERGE: takes the smaller one", SelectorGcBoundaries::mergeTakesTheSmaller);
        test("MERGE: i grows if a[i] was not greater", SelectorGcBoundaries::mergeMovesFirst);
        test("MERGE: j grows if b[j] was not greater", SelectorGcBoundaries::mergeMovesSecond);
        test("MERGE: both grow when equal, taken once", SelectorGcBoundaries::mergeTakesEqualOnce);
        test("MERGE: step by step, sorted or not", SelectorGcBoundaries::mergeOfUnsorted);
    }

    private static void readyRules() {
        test("(s, k) only if (s, k - 1)", SelectorGcBoundaries::noGapBefore);
        test("COUNT needs nothing more", SelectorGcBoundaries::countNeedsNothing);
        test("CONS: (s, 0) needs nothing", SelectorGcBoundaries::consFirstNeedsNothing);
        test("CONS: (s, k) needs (b, k - 1)", SelectorGcBoundaries::consNeedsTheOneBefore);
        test("TAIL needs (a, k + 1)", SelectorGcBoundaries::tailNeedsTheNext);
        test("ADD, MUL need (a, k) and (b, k)", SelectorGcBoundaries::addAndMulNeedBoth);
        test("MUL needs both, even beside a 0", SelectorGcBoundaries::mulByZeroNeedsBoth);
        test("SCALE needs (b, k)", SelectorGcBoundaries::scaleNeedsSecond);
        test("SCAN needs (a, k)", SelectorGcBoundaries::scanNeedsFirst);
        test("WEAVE needs (a, k / 2) for even k", SelectorGcBoundaries::weaveNeedsFirstWhenEven);
        test("WEAVE needs (b, (k - 1) / 2) for odd k", SelectorGcBoundaries::weaveNeedsSecondWhenOdd);
        test("MERGE needs (a, i) and (b, j)", SelectorGcBoundaries::mergeNeedsBoth);
        test("MERGE needs the places after k steps, not k", SelectorGcBoundaries::mergeNeedsPlaces);
        test("needs itself directly: not ready", SelectorGcBoundaries::needsItself);
        test("needs itself in a circle: not ready", SelectorGcBoundaries::needsACircle);
        test("a circle that begins late", SelectorGcBoundaries::lateCircle);
        test("needs others without end: not ready", SelectorGcBoundaries::needsWithoutEnd);
        test("no circle: defined by itself, yet ready", SelectorGcBoundaries::definedByItselfYetReady);
        test("a value iff its pair is ready", SelectorGcBoundaries::valueIffReady);
        test("needs go up to 20", SelectorGcBoundaries::needsGoUpTo20);
    }

    private static void promises1And2() {
        test("1: every sequence is COUNT 0 0", SelectorGcBoundaries::newObject);
        test("2: defines s anew", SelectorGcBoundaries::definesAnew);
        test("2: defines s anew, whatever was there", SelectorGcBoundaries::definesAnewFromEachKind);
        test("2: defines s alone", SelectorGcBoundaries::definesNoOther);
        test("2: s outside 0..5", SelectorGcBoundaries::defineOutside);
        test("2: kind outside 0..8", SelectorGcBoundaries::defineKindOutside);
        test("2: a outside 0..5 in TAIL, ADD, MUL, SCAN, WEAVE, MERGE", SelectorGcBoundaries::defineFirstOutside);
        test("2: b outside 0..5 in CONS, ADD, MUL, SCALE, WEAVE, MERGE", SelectorGcBoundaries::defineSecondOutside);
        test("2: other a and b are any ints", SelectorGcBoundaries::defineAnyInts);
        test("2: or play no part", SelectorGcBoundaries::definePlaysNoPart);
        test("2: else true", SelectorGcBoundaries::defineElseTrue);
    }

    private static void promises3To5() {
        test("3: whether (s, k) is ready", SelectorGcBoundaries::readyAtTheEnd);
        test("3: false for s outside 0..5", SelectorGcBoundaries::readyOutsideSequences);
        test("3: false for k outside 0..15", SelectorGcBoundaries::readyOutsidePlaces);
        test("4: s[k] if ready", SelectorGcBoundaries::elementAtBothEnds);
        test("4: 0 if not ready", SelectorGcBoundaries::elementNotReady);
        test("4: 0 for s outside 0..5", SelectorGcBoundaries::elementOutsideSequences);
        test("4: 0 for k outside 0..15", SelectorGcBoundaries::elementOutsidePlaces);
        test("5: the number of k from 0 to 15", SelectorGcBoundaries::knownNumbers);
        test("5: BAD for s outside 0..5", SelectorGcBoundaries::knownOutside);
    }

    private static void promises6To8() {
        test("6: the smallest k", SelectorGcBoundaries::firstAboveSmallest);
        test("6: k from 0 to 15", SelectorGcBoundaries::firstAboveEnds);
        test("6: is ready", SelectorGcBoundaries::firstAboveOnlyReady);
        test("6: greater than v", SelectorGcBoundaries::firstAboveGreater);
        test("6: NONE if there is none", SelectorGcBoundaries::firstAboveNone);
        test("6: BAD for s outside 0..5", SelectorGcBoundaries::firstAboveOutside);
        test("7: the number of k from 0 to 15", SelectorGcBoundaries::agreeEnds);
        test("7: both ready", SelectorGcBoundaries::agreeOnlyReady);
        test("7: s[k] = t[k]", SelectorGcBoundaries::agreeEqual);
        test("7: BAD for s outside 0..5", SelectorGcBoundaries::agreeFirstOutside);
        test("7: BAD for t outside 0..5", SelectorGcBoundaries::agreeSecondOutside);
        test("8: the kind by which s is defined", SelectorGcBoundaries::kindOfEach);
        test("8: BAD for s outside 0..5", SelectorGcBoundaries::kindOutside);
    }

    private static void promises9And10() {
        test("9: makes every sequence COUNT 0 0", SelectorGcBoundaries::resetAll);
        test("9: nothing of before comes back", SelectorGcBoundaries::resetForgets);
        test("10: define refused for s changes nothing", SelectorGcBoundaries::refusedSequenceChangesNothing);
        test("10: define refused for kind changes nothing", SelectorGcBoundaries::refusedKindChangesNothing);
        test("10: define refused for a changes nothing", SelectorGcBoundaries::refusedFirstChangesNothing);
        test("10: define refused for b changes nothing", SelectorGcBoundaries::refusedSecondChangesNothing);
        test("10: a refused question changes nothing", SelectorGcBoundaries::refusedQuestionsChangeNothing);
        test("10: an answered question changes nothing", SelectorGcBoundaries::answeredQuestionsChangeNothing);
        test("10: BAD is tested before NONE", SelectorGcBoundaries::badBeforeNone);
    }

    private static void the512thCall() {
        SelectorGc x = new SelectorGc();
        for (int n = 1; n <= 511; n++) {
            x.define(n % 6, n % 2 == 0 ? COUNT : CONS, n, n % 6);
        }
        due("element(1, 15) as call 512", x.element(1, 15), 511);
        SelectorGc y = new SelectorGc();
        for (int n = 1; n <= 511; n++) {
            y.reset();
        }
        due("define as call 512", y.define(0, COUNT, 1, 1), true);
        SelectorGc z = new SelectorGc();
        for (int n = 1; n <= 511; n++) {
            z.define(6, COUNT, 1, 1);
        }
        due("known(0) as call 512", z.known(0), 16);
    }

    private static void sixSequences() {
        SelectorGc x = new SelectorGc();
        for (int s = 0; s <= 5; s++) {
            due("define", x.define(s, COUNT, 10 * s, 1), true, s);
        }
        for (int s = 0; s <= 5; s++) {
            due("kind", x.kind(s), COUNT, s);
            due("known", x.known(s), 16, s);
            due("ready", x.ready(s, 0), true, s);
            due("element", x.element(s, 15), 10 * s + 15, s);
            due("firstAbove", x.firstAbove(s, 10 * s), 1, s);
            due("agree", x.agree(s, s), 16, s);
        }
        for (int s : new int[] {-1, 6}) {
            due("define", x.define(s, COUNT, 0, 0), false, s);
            due("kind", x.kind(s), BAD, s);
            due("known", x.known(s), BAD, s);
        }
    }

    private static void countWraps() {
        SelectorGc x = new SelectorGc();
        x.define(0, COUNT, MAX, 1);
        elements(x, 0, MAX, MIN, MIN + 1);
        x.define(0, COUNT, MIN, -1);
        elements(x, 0, MIN, MAX, MAX - 1);
        x.define(0, COUNT, 0, MAX);
        elements(x, 0, 0, MAX, -2, MAX - 2);
        due("element(0, 15)", x.element(0, 15), MAX - 14);
        x.define(0, COUNT, MIN, MIN);
        elements(x, 0, MIN, 0, MIN, 0);
        x.define(0, COUNT, 0, 1 << 28);
        elements(x, 0, 0, 1 << 28, 1 << 29, 3 << 28, 1 << 30, 5 << 28, 6 << 28, 7 << 28, MIN, MIN + (1 << 28));
    }

    private static void addWraps() {
        SelectorGc x = make(new int[][] {{0, COUNT, MAX, 0}, {1, COUNT, 1, 0}, {2, COUNT, MIN, 0}, {3, COUNT, -1, 0}});
        x.define(4, ADD, 0, 1);
        elements(x, 4, MIN, MIN);
        x.define(4, ADD, 2, 2);
        elements(x, 4, 0, 0);
        x.define(4, ADD, 2, 3);
        elements(x, 4, MAX, MAX);
        x.define(4, ADD, 0, 0);
        elements(x, 4, -2, -2);
    }

    private static void mulWraps() {
        SelectorGc x = make(new int[][] {{0, COUNT, MAX, 0}, {1, COUNT, 46341, 0}, {2, COUNT, MIN, 0}, {3, COUNT, -1, 0}});
        x.define(4, MUL, 2, 3);
        elements(x, 4, MIN, MIN);
        x.define(4, MUL, 0, 0);
        elements(x, 4, 1, 1);
        x.define(4, MUL, 2, 2);
        elements(x, 4, 0, 0);
        x.define(4, MUL, 1, 1);
        elements(x, 4, -2147479015, -2147479015);
    }

    private static void scaleWraps() {
        SelectorGc x = make(new int[][] {{0, COUNT, MAX, 0}, {1, COUNT, 1 << 16, 0}, {2, COUNT, MIN, 0}});
        x.define(4, SCALE, -1, 2);
        elements(x, 4, MIN, MIN);
        x.define(4, SCALE, 2, 0);
        elements(x, 4, -2, -2);
        x.define(4, SCALE, MIN, 0);
        elements(x, 4, MIN, MIN);
        x.define(4, SCALE, 1 << 16, 1);
        elements(x, 4, 0, 0);
    }

    private static void scanWraps() {
        SelectorGc x = make(new int[][] {{0, COUNT, MAX, 0}, {1, COUNT, MIN, 0}, {2, SCAN, 0, 0}, {3, SCAN, 1, 0}});
        elements(x, 2, MAX, -2, MAX - 2, -4);
        due("element(2, 15)", x.element(2, 15), -16);
        elements(x, 3, MIN, 0, MIN, 0);
    }

    private static void countEnds() {
        SelectorGc x = make(new int[][] {{0, COUNT, 5, -3}, {1, COUNT, 7, 0}});
        elements(x, 0, 5, 2, -1, -4);
        due("element(0, 15)", x.element(0, 15), -40);
        elements(x, 1, 7, 7, 7, 7);
        due("element(1, 15)", x.element(1, 15), 7);
    }

    private static void consEnds() {
        SelectorGc x = make(new int[][] {{0, COUNT, 10, 1}, {1, CONS, -9, 0}});
        elements(x, 1, -9, 10, 11, 12);
        due("element(1, 15)", x.element(1, 15), 24);
    }

    private static void tailEnds() {
        SelectorGc x = make(new int[][] {{0, COUNT, 10, 1}, {1, TAIL, 0, 0}});
        elements(x, 1, 11, 12, 13);
        due("element(1, 15)", x.element(1, 15), 26);
    }

    private static void addMulAndScaleEnds() {
        SelectorGc x = make(new int[][] {
            {0, COUNT, 10, 1}, {1, COUNT, 3, -2}, {2, ADD, 0, 1}, {3, MUL, 0, 1}, {4, SCALE, -4, 0}, {5, SCALE, 0, 0}});
        elements(x, 2, 13, 12, 11);
        due("element(2, 15)", x.element(2, 15), -2);
        elements(x, 3, 30, 11, -12);
        due("element(3, 15)", x.element(3, 15), -675);
        elements(x, 4, -40, -44, -48);
        due("element(4, 15)", x.element(4, 15), -100);
        elements(x, 5, 0, 0, 0);
        due("known(5)", x.known(5), 16);
    }

    private static void scanEnds() {
        SelectorGc x = make(new int[][] {{0, COUNT, 10, 1}, {1, SCAN, 0, 0}});
        elements(x, 1, 10, 21, 33, 46);
        due("element(1, 15)", x.element(1, 15), 280);
    }

    private static void weaveEnds() {
        SelectorGc x = make(new int[][] {{0, COUNT, 10, 1}, {1, COUNT, -10, -1}, {2, WEAVE, 0, 1}});
        elements(x, 2, 10, -10, 11, -11, 12);
        due("element(2, 14)", x.element(2, 14), 17);
        due("element(2, 15)", x.element(2, 15), -17);
    }

    private static void mergeBegins() {
        SelectorGc x = make(new int[][] {{0, COUNT, 3, 10}, {1, COUNT, 4, 10}, {2, MERGE, 0, 1}, {3, MERGE, 1, 0}});
        elements(x, 2, 3, 4, 13, 14);
        elements(x, 3, 3, 4, 13, 14);
        // What an earlier definition's steps have reached is not where the next one begins.
        x.define(2, MERGE, 0, 1);
        elements(x, 2, 3, 4, 13, 14);
        x.define(2, COUNT, 0, 0);
        x.define(2, MERGE, 1, 0);
        elements(x, 2, 3, 4, 13, 14);
    }

    private static void mergeTakesTheSmaller() {
        SelectorGc x = make(new int[][] {{0, COUNT, MIN, 0}, {1, COUNT, MAX, 0}, {2, MERGE, 0, 1}, {3, MERGE, 1, 0}});
        elements(x, 2, MIN, MIN, MIN);
        elements(x, 3, MIN, MIN, MIN);
        due("element(2, 15)", x.element(2, 15), MIN);
        due("element(3, 15)", x.element(3, 15), MIN);
    }

    private static void mergeMovesFirst() {
        SelectorGc x = make(new int[][] {{0, COUNT, 1, 1}, {1, COUNT, 100, 1}, {2, MERGE, 0, 1}});
        elements(x, 2, 1, 2, 3, 4);
        due("element(2, 15)", x.element(2, 15), 16);
    }

    private static void mergeMovesSecond() {
        SelectorGc x = make(new int[][] {{0, COUNT, 100, 1}, {1, COUNT, 1, 1}, {2, MERGE, 0, 1}});
        elements(x, 2, 1, 2, 3, 4);
        due("element(2, 15)", x.element(2, 15), 16);
    }

    private static void mergeTakesEqualOnce() {
        SelectorGc x = make(new int[][] {{0, COUNT, 0, 2}, {1, COUNT, 0, 3}, {2, MERGE, 0, 1}, {3, MERGE, 0, 0}});
        elements(x, 2, 0, 2, 3, 4, 6, 8, 9, 10, 12, 14, 15, 16, 18, 20, 21, 22);
        elements(x, 3, 0, 2, 4, 6);
        due("element(3, 15)", x.element(3, 15), 30);
        // Only equal ones of both are taken once: what stands twice in one of them stays twice.
        x.define(4, WEAVE, 0, 0);
        x.define(5, MERGE, 4, 0);
        elements(x, 5, 0, 0, 2, 2, 4, 4);
        x.define(5, MERGE, 0, 4);
        elements(x, 5, 0, 0, 2, 2, 4, 4);
    }

    private static void mergeOfUnsorted() {
        SelectorGc x = make(new int[][] {{0, COUNT, 2, -1}, {1, COUNT, 2, 0}, {2, MERGE, 0, 1}, {3, COUNT, 3, -1}});
        elements(x, 2, 2, 1, 0, -1, -2);
        x.define(2, MERGE, 3, 1);
        elements(x, 2, 2, 2, 2, 2, 2);
        x.define(2, MERGE, 1, 3);
        elements(x, 2, 2, 2, 2, 2, 2);
    }

    private static void noGapBefore() {
        SelectorGc x = finiteObject(1);
        x.define(FREE, WEAVE, EMPTY, NUMBERS);
        due("ready(WEAVE EMPTY NUMBERS, 1)", x.ready(FREE, 1), false);
        due("ready(WEAVE EMPTY NUMBERS, 15)", x.ready(FREE, 15), false);
        due("known(WEAVE EMPTY NUMBERS)", x.known(FREE), 0);
        x.define(FREE, WEAVE, ONE_ELEMENT, NUMBERS);
        due("ready(WEAVE ONE_ELEMENT NUMBERS, 1)", x.ready(FREE, 1), true);
        due("ready(WEAVE ONE_ELEMENT NUMBERS, 2)", x.ready(FREE, 2), false);
        due("ready(WEAVE ONE_ELEMENT NUMBERS, 3)", x.ready(FREE, 3), false);
        due("element(WEAVE ONE_ELEMENT NUMBERS, 3)", x.element(FREE, 3), 0);
        x.define(FREE, WEAVE, NUMBERS, EMPTY);
        due("ready(WEAVE NUMBERS EMPTY, 0)", x.ready(FREE, 0), true);
        due("ready(WEAVE NUMBERS EMPTY, 2)", x.ready(FREE, 2), false);
        due("known(WEAVE NUMBERS EMPTY)", x.known(FREE), 1);
    }

    private static void countNeedsNothing() {
        SelectorGc x = new SelectorGc();
        for (int s = 0; s < 6; s++) {
            x.define(s, TAIL, s, 0);
        }
        x.define(3, COUNT, 3, 3);
        due("known(3) beside empty ones", x.known(3), 16);
        due("ready(3, 15) beside empty ones", x.ready(3, 15), true);
        due("known(2)", x.known(2), 0);
    }

    private static void consFirstNeedsNothing() {
        SelectorGc x = finiteObject(1);
        x.define(FREE, CONS, 77, EMPTY);
        due("ready(CONS 77 EMPTY, 0)", x.ready(FREE, 0), true);
        due("element(CONS 77 EMPTY, 0)", x.element(FREE, 0), 77);
        due("ready(CONS 77 EMPTY, 1)", x.ready(FREE, 1), false);
        due("known(CONS 77 EMPTY)", x.known(FREE), 1);
    }

    private static void consNeedsTheOneBefore() {
        for (int n = 1; n <= 17; n++) {
            SelectorGc x = finiteObject(n);
            x.define(FREE, CONS, 0, FINITE);
            due("known of CONS over so many", x.known(FREE), atMost16(n + 1), n);
        }
    }

    private static void tailNeedsTheNext() {
        for (int n = 1; n <= 18; n++) {
            SelectorGc x = finiteObject(n);
            x.define(FREE, TAIL, FINITE, 0);
            x.define(FREE_TOO, TAIL, FREE, 0);
            due("known of TAIL over so many", x.known(FREE), atMost16(n - 1), n);
            due("known of TAIL of TAIL over so many", x.known(FREE_TOO), atMost16(n < 2 ? 0 : n - 2), n);
            due("element 15 of TAIL over so many", x.element(FREE, 15), n >= 17 ? 16 : 0, n);
        }
        SelectorGc x = finiteObject(1);
        x.define(FREE, TAIL, EMPTY, 0);
        due("known(TAIL EMPTY)", x.known(FREE), 0);
    }

    private static void addAndMulNeedBoth() {
        for (int kind : new int[] {ADD, MUL}) {
            for (int n = 1; n <= 17; n++) {
                SelectorGc x = finiteObject(n);
                x.define(FREE, kind, FINITE, NUMBERS);
                due("known with so many first", x.known(FREE), atMost16(n), kind, n);
                x.define(FREE, kind, NUMBERS, FINITE);
                due("known with so many second", x.known(FREE), atMost16(n), kind, n);
            }
            SelectorGc x = finiteObject(1);
            x.define(FREE, kind, EMPTY, NUMBERS);
            due("known with EMPTY first", x.known(FREE), 0, kind);
            x.define(FREE, kind, NUMBERS, EMPTY);
            due("known with EMPTY second", x.known(FREE), 0, kind);
        }
    }

    private static void mulByZeroNeedsBoth() {
        SelectorGc x = finiteObject(3);
        x.define(FREE_TOO, COUNT, 0, 0);
        x.define(FREE, MUL, FREE_TOO, FINITE);
        due("known(MUL zeros FINITE)", x.known(FREE), 3);
        x.define(FREE, MUL, FINITE, FREE_TOO);
        due("known(MUL FINITE zeros)", x.known(FREE), 3);
    }

    private static void scaleNeedsSecond() {
        for (int n = 1; n <= 17; n++) {
            SelectorGc x = finiteObject(n);
            x.define(FREE, SCALE, 0, FINITE);
            due("known of SCALE 0 over so many", x.known(FREE), atMost16(n), n);
        }
        SelectorGc x = finiteObject(1);
        x.define(FREE, SCALE, 0, EMPTY);
        due("known(SCALE 0 EMPTY)", x.known(FREE), 0);
        // The number a is no sequence: that sequence 5 is empty does not matter.
        x.define(FREE, SCALE, EMPTY, NUMBERS);
        due("known(SCALE 5 NUMBERS)", x.known(FREE), 16);
    }

    private static void scanNeedsFirst() {
        for (int n = 1; n <= 17; n++) {
            SelectorGc x = finiteObject(n);
            x.define(FREE, SCAN, FINITE, 0);
            due("known of SCAN over so many", x.known(FREE), atMost16(n), n);
        }
        SelectorGc x = finiteObject(1);
        x.define(FREE, SCAN, EMPTY, 0);
        due("known(SCAN EMPTY)", x.known(FREE), 0);
    }

    private static void weaveNeedsFirstWhenEven() {
        for (int n = 1; n <= 9; n++) {
            SelectorGc x = finiteObject(n);
            x.define(FREE, WEAVE, FINITE, NUMBERS);
            due("known with so many first", x.known(FREE), atMost16(2 * n), n);
        }
        SelectorGc x = finiteObject(1);
        x.define(FREE, WEAVE, EMPTY, NUMBERS);
        due("known with EMPTY first", x.known(FREE), 0);
    }

    private static void weaveNeedsSecondWhenOdd() {
        for (int n = 1; n <= 9; n++) {
            SelectorGc x = finiteObject(n);
            x.define(FREE, WEAVE, NUMBERS, FINITE);
            due("known with so many second", x.known(FREE), atMost16(2 * n + 1), n);
        }
        SelectorGc x = finiteObject(1);
        x.define(FREE, WEAVE, NUMBERS, EMPTY);
        due("known with EMPTY second", x.known(FREE), 1);
    }

    private static void mergeNeedsBoth() {
        SelectorGc x = finiteObject(4);
        x.define(FREE_TOO, COUNT, 100, 1);
        int[][] cases = {
            {EMPTY, NUMBERS, 0}, {NUMBERS, EMPTY, 0}, {EMPTY, EMPTY, 0},
            {FINITE, FREE_TOO, 4}, {FREE_TOO, FINITE, 4}, {FINITE, FINITE, 4},
            {ONE_ELEMENT, FREE_TOO, 1}, {FREE_TOO, ONE_ELEMENT, 1},
        };
        for (int[] c : cases) {
            x.define(FREE, MERGE, c[0], c[1]);
            due("known of MERGE", x.known(FREE), c[2], c[0], c[1]);
            due("ready after the last of MERGE", x.ready(FREE, c[2]), false, c[0], c[1]);
        }
    }

    private static void mergeNeedsPlaces() {
        for (int n = 1; n <= 17; n++) {
            SelectorGc x = finiteObject(n);
            // The one element n - 1 waits at place 0 while the numbers before it are taken.
            x.define(FREE, MERGE, ONE_ELEMENT, NUMBERS);
            due("known with one element first", x.known(FREE), atMost16(n), n);
            x.define(FREE, MERGE, NUMBERS, ONE_ELEMENT);
            due("known with one element second", x.known(FREE), atMost16(n), n);
        }
    }

    private static void needsItself() {
        for (int kind : new int[] {ADD, MUL, SCALE, SCAN, WEAVE, MERGE}) {
            for (int s = 0; s < 6; s++) {
                SelectorGc x = new SelectorGc();
                x.define(s, kind, s, s);
                due("known of itself", x.known(s), 0, kind, s);
                due("ready of itself", x.ready(s, 0), false, kind, s);
            }
        }
        SelectorGc x = new SelectorGc();
        for (int kind : new int[] {ADD, MUL, MERGE}) {
            x.define(2, kind, 2, 1);
            due("known with itself first", x.known(2), 0, kind);
            x.define(2, kind, 1, 2);
            due("known with itself second", x.known(2), 0, kind);
        }
        x.define(2, WEAVE, 2, 1);
        due("known of WEAVE with itself first", x.known(2), 0);
    }

    private static void needsACircle() {
        for (int length = 2; length <= 6; length++) {
            for (int kind : new int[] {ADD, MUL, SCALE, SCAN, WEAVE, MERGE}) {
                SelectorGc x = ring(length, kind);
                for (int s = 0; s < 6; s++) {
                    due("known in a ring", x.known(s), s < length ? 0 : 16, length, kind, s);
                }
                x.define(length - 1, COUNT, 1, 0);
                due("known when the ring is cut", x.known(0), 16, length, kind);
            }
        }
        SelectorGc mixed = make(new int[][] {
            {0, ADD, 1, 1}, {1, MUL, 2, 2}, {2, SCALE, 1, 3}, {3, SCAN, 4, 0}, {4, WEAVE, 5, 5}, {5, MERGE, 0, 0}});
        for (int s = 0; s < 6; s++) {
            due("known in a ring of six kinds", mixed.known(s), 0, s);
        }
        mixed.define(5, CONS, 1, 0);
        for (int s = 0; s < 6; s++) {
            due("known when a CONS opens the ring", mixed.known(s), 16, s);
        }
    }

    private static void lateCircle() {
        SelectorGc x = make(new int[][] {{0, CONS, 9, 1}, {1, TAIL, 0, 0}});
        due("ready(0, 0)", x.ready(0, 0), true);
        due("ready(0, 1)", x.ready(0, 1), false);
        due("known(0)", x.known(0), 1);
        due("known(1)", x.known(1), 0);
        x = make(new int[][] {{0, CONS, 1, 1}, {1, CONS, 2, 2}, {2, TAIL, 3, 0}, {3, TAIL, 0, 0}});
        due("known(0) with two TAILs", x.known(0), 2);
        due("known(1) with two TAILs", x.known(1), 1);
        due("known(2) with two TAILs", x.known(2), 0);
        due("known(3) with two TAILs", x.known(3), 1);
        // WEAVE 1 2 over 2 = TAIL 0: element 1 needs (2, 0), which needs element 1.
        x = make(new int[][] {{0, WEAVE, 1, 2}, {2, TAIL, 0, 0}});
        due("known(0) woven with its own tail", x.known(0), 1);
        due("known(2) woven with its own tail", x.known(2), 0);
        // MERGE takes -1 and then waits for an element that waits for it.
        x = make(new int[][] {{0, MERGE, 1, 2}, {1, CONS, -1, 3}, {3, TAIL, 0, 0}});
        due("known(0) merged with its own tail", x.known(0), 1);
        due("known(3) merged with its own tail", x.known(3), 0);
    }

    private static void needsWithoutEnd() {
        for (int s = 0; s < 6; s++) {
            SelectorGc x = new SelectorGc();
            x.define(s, TAIL, s, 0);
            due("known of TAIL of itself", x.known(s), 0, s);
            due("ready of TAIL of itself", x.ready(s, 15), false, s);
        }
        for (int length = 2; length <= 6; length++) {
            SelectorGc x = ring(length, TAIL);
            for (int s = 0; s < length; s++) {
                due("known in a ring of TAILs", x.known(s), 0, length, s);
            }
        }
        SelectorGc x = make(new int[][] {{0, CONS, 1, 1}, {1, TAIL, 2, 0}, {2, TAIL, 0, 0}});
        due("known(0)", x.known(0), 1);
        due("known(1)", x.known(1), 0);
        due("known(2)", x.known(2), 0);
        x = make(new int[][] {{0, TAIL, 1, 0}, {1, ADD, 0, 2}});
        due("known(0) of TAIL over ADD", x.known(0), 0);
        due("known(1) of ADD over TAIL", x.known(1), 0);
    }

    private static void definedByItselfYetReady() {
        SelectorGc x = new SelectorGc();
        x.define(0, CONS, 4, 0);
        elements(x, 0, 4, 4, 4, 4);
        due("known(CONS 4 itself)", x.known(0), 16);
        x.define(1, COUNT, 10, 1);
        x.define(0, WEAVE, 1, 0);
        elements(x, 0, 10, 10, 11, 10, 12, 11, 13, 10);
        due("known(WEAVE 1 itself)", x.known(0), 16);
        x = make(new int[][] {{0, CONS, 1, 1}, {1, SCAN, 0, 0}});
        elements(x, 0, 1, 1, 2, 4, 8, 16);
        due("known(CONS 1 of its own SCAN)", x.known(0), 16);
        due("element(0, 15)", x.element(0, 15), 1 << 14);
        // The TAIL needs (0, k + 1), which needs (1, k) and no more.
        x = make(new int[][] {{0, CONS, 5, 1}, {1, CONS, 6, 2}, {2, TAIL, 0, 0}});
        elements(x, 0, 5, 6, 6, 6);
        due("known(2)", x.known(2), 16);
    }

    private static void valueIffReady() {
        SelectorGc x = finiteObject(15);
        for (int k = 0; k <= 15; k++) {
            due("ready", x.ready(FINITE, k), k < 15, k);
            due("element", x.element(FINITE, k), k < 15 ? k : 0, k);
            due("ready of EMPTY", x.ready(EMPTY, k), false, k);
            due("element of EMPTY", x.element(EMPTY, k), 0, k);
            due("ready of NUMBERS", x.ready(NUMBERS, k), true, k);
            due("element of NUMBERS", x.element(NUMBERS, k), k, k);
        }
    }

    private static void needsGoUpTo20() {
        for (int end = 0; end < 6; end++) {
            for (int step : new int[] {1, 5}) {
                SelectorGc x = new SelectorGc();
                for (int n = 1; n <= 5; n++) {
                    x.define((end + n * step) % 6, TAIL, (end + (n - 1) * step) % 6, 0);
                }
                x.define(end, COUNT, 0, 3);
                int last = (end + 5 * step) % 6;
                due("known of the fifth TAIL", x.known(last), 16, end, step);
                due("element 0 of the fifth TAIL", x.element(last, 0), 15, end, step);
                due("element 15 of the fifth TAIL", x.element(last, 15), 60, end, step);
            }
        }
    }

    private static void newObject() {
        zeros(new SelectorGc());
    }

    private static void definesAnew() {
        SelectorGc x = finiteObject(2);
        x.define(FREE, SCALE, 2, FREE_TOO);
        x.define(FREE_TOO, COUNT, 1, 1);
        elements(x, FREE, 2, 4, 6);
        x.define(FREE_TOO, COUNT, 1, 2);
        elements(x, FREE, 2, 6, 10);
        x.define(FREE_TOO, SCALE, 1, FINITE);
        elements(x, FREE, 0, 2, 0, 0);
        due("known over FINITE", x.known(FREE), 2);
        x.define(FREE_TOO, SCALE, 1, EMPTY);
        elements(x, FREE, 0, 0, 0, 0);
        due("known over EMPTY", x.known(FREE), 0);
        x.define(FREE_TOO, SCALE, 1, NUMBERS);
        elements(x, FREE, 0, 2, 4, 6);
        due("known over NUMBERS", x.known(FREE), 16);
        x.define(FREE_TOO, SCALE, 1, NUMBERS);
        elements(x, FREE, 0, 2, 4, 6);
    }

    private static void definesAnewFromEachKind() {
        for (int before = 0; before <= 8; before++) {
            for (int after = 0; after <= 8; after++) {
                SelectorGc fresh = make(new int[][] {{1, COUNT, 3, 2}, {2, COUNT, 4, 1}, {0, after, 1, 2}});
                SelectorGc used = make(new int[][] {{1, COUNT, 3, 2}, {2, COUNT, 4, 1}, {0, before, 2, 1}, {0, after, 1, 2}});
                due("answers as from a new object", answers(used).equals(answers(fresh)), true, before, after);
            }
        }
    }

    private static void definesNoOther() {
        for (int s = 0; s < 6; s++) {
            SelectorGc x = new SelectorGc();
            x.define(s, CONS, 7, s);
            for (int t = 0; t < 6; t++) {
                due("kind", x.kind(t), t == s ? CONS : COUNT, s, t);
                due("element", x.element(t, 15), t == s ? 7 : 0, s, t);
            }
        }
    }

    private static void defineOutside() {
        for (int s : NO_SEQUENCE) {
            SelectorGc x = new SelectorGc();
            for (int kind = 0; kind <= 8; kind++) {
                due("define", x.define(s, kind, 0, 0), false, s, kind, 0, 0);
                due("define", x.define(s, kind, 5, 5), false, s, kind, 5, 5);
            }
        }
        for (int kind = 0; kind <= 8; kind++) {
            SelectorGc x = new SelectorGc();
            due("define", x.define(0, kind, 1, 1), true, 0, kind, 1, 1);
            due("define", x.define(5, kind, 1, 1), true, 5, kind, 1, 1);
        }
    }

    private static void defineKindOutside() {
        SelectorGc x = new SelectorGc();
        for (int kind : NO_KIND) {
            for (int s = 0; s < 6; s++) {
                due("define", x.define(s, kind, 0, 0), false, s, kind, 0, 0);
            }
        }
        due("define", x.define(0, 0, 0, 0), true, 0, 0, 0, 0);
        due("define", x.define(0, 8, 0, 0), true, 0, 8, 0, 0);
    }

    private static void defineFirstOutside() {
        for (int kind : new int[] {TAIL, ADD, MUL, SCAN, WEAVE, MERGE}) {
            SelectorGc x = new SelectorGc();
            for (int a : NO_SEQUENCE) {
                due("define", x.define(1, kind, a, 0), false, 1, kind, a, 0);
            }
            due("define", x.define(1, kind, 0, 0), true, 1, kind, 0, 0);
            due("define", x.define(1, kind, 5, 0), true, 1, kind, 5, 0);
        }
    }

    private static void defineSecondOutside() {
        for (int kind : new int[] {CONS, ADD, MUL, SCALE, WEAVE, MERGE}) {
            SelectorGc x = new SelectorGc();
            for (int b : NO_SEQUENCE) {
                due("define", x.define(1, kind, 0, b), false, 1, kind, 0, b);
            }
            due("define", x.define(1, kind, 0, 0), true, 1, kind, 0, 0);
            due("define", x.define(1, kind, 0, 5), true, 1, kind, 0, 5);
        }
    }

    private static void defineAnyInts() {
        for (int n : NO_SEQUENCE) {
            SelectorGc x = new SelectorGc();
            due("define COUNT", x.define(0, COUNT, n, 1), true, n, 1);
            elements(x, 0, n, n + 1);
            due("define COUNT", x.define(0, COUNT, 1, n), true, 1, n);
            elements(x, 0, 1, 1 + n);
            due("define CONS", x.define(1, CONS, n, 2), true, n, 2);
            elements(x, 1, n, 0);
            x.define(0, COUNT, 1, 0);
            due("define SCALE", x.define(1, SCALE, n, 0), true, n, 0);
            elements(x, 1, n, n);
        }
    }

    private static void definePlaysNoPart() {
        for (int n : NO_SEQUENCE) {
            SelectorGc x = new SelectorGc();
            x.define(0, COUNT, 10, 1);
            due("define TAIL", x.define(1, TAIL, 0, n), true, 0, n);
            elements(x, 1, 11, 12, 13);
            due("known of TAIL", x.known(1), 16, n);
            due("define SCAN", x.define(1, SCAN, 0, n), true, 0, n);
            elements(x, 1, 10, 21, 33);
            due("known of SCAN", x.known(1), 16, n);
        }
        // A b that happens to be the number of an empty sequence, or its own, is no need either.
        SelectorGc x = finiteObject(1);
        x.define(FREE, TAIL, NUMBERS, EMPTY);
        due("known(TAIL NUMBERS, EMPTY in b)", x.known(FREE), 16);
        x.define(FREE, SCAN, NUMBERS, FREE);
        due("known(SCAN NUMBERS, itself in b)", x.known(FREE), 16);
        x.define(FREE, CONS, EMPTY, NUMBERS);
        due("known(CONS 5 NUMBERS)", x.known(FREE), 16);
    }

    private static void defineElseTrue() {
        for (int s = 0; s < 6; s++) {
            for (int kind = 0; kind <= 8; kind++) {
                SelectorGc x = new SelectorGc();
                for (int a = 0; a < 6; a++) {
                    for (int b = 0; b < 6; b++) {
                        due("define", x.define(s, kind, a, b), true, s, kind, a, b);
                    }
                }
            }
        }
    }

    private static void readyAtTheEnd() {
        for (int n = 1; n <= 17; n++) {
            SelectorGc x = finiteObject(n);
            for (int k = 0; k <= 15; k++) {
                due("ready with so many", x.ready(FINITE, k), k < n, n, k);
            }
        }
    }

    private static void readyOutsideSequences() {
        SelectorGc x = new SelectorGc();
        for (int s : NO_SEQUENCE) {
            for (int k = -1; k <= 16; k++) {
                due("ready", x.ready(s, k), false, s, k);
            }
        }
    }

    private static void readyOutsidePlaces() {
        SelectorGc x = new SelectorGc();
        for (int s = 0; s < 6; s++) {
            for (int k : NO_PLACE) {
                due("ready", x.ready(s, k), false, s, k);
            }
            due("ready", x.ready(s, 0), true, s, 0);
            due("ready", x.ready(s, 15), true, s, 15);
        }
        for (int s : NO_SEQUENCE) {
            for (int k : NO_PLACE) {
                due("ready", x.ready(s, k), false, s, k);
            }
        }
    }

    private static void elementAtBothEnds() {
        SelectorGc x = new SelectorGc();
        for (int s = 0; s < 6; s++) {
            x.define(s, COUNT, 100 * s + 1, 1);
        }
        for (int s = 0; s < 6; s++) {
            due("element", x.element(s, 0), 100 * s + 1, s, 0);
            due("element", x.element(s, 15), 100 * s + 16, s, 15);
        }
    }

    private static void elementNotReady() {
        SelectorGc x = new SelectorGc();
        x.define(0, COUNT, 50, 1);
        x.define(0, SCAN, 0, 0);
        for (int k = 0; k <= 15; k++) {
            due("element after its value is gone", x.element(0, k), 0, k);
        }
        x.define(0, COUNT, 50, 1);
        x.define(0, CONS, 60, 1);
        x.define(1, SCAN, 1, 0);
        due("element(0, 0)", x.element(0, 0), 60);
        for (int k = 1; k <= 15; k++) {
            due("element after the last ready one", x.element(0, k), 0, k);
        }
    }

    private static void elementOutsideSequences() {
        SelectorGc x = sevens();
        for (int s : NO_SEQUENCE) {
            for (int k = -1; k <= 16; k++) {
                due("element", x.element(s, k), 0, s, k);
            }
        }
    }

    private static void elementOutsidePlaces() {
        SelectorGc x = sevens();
        for (int s = 0; s < 6; s++) {
            for (int k : NO_PLACE) {
                due("element", x.element(s, k), 0, s, k);
            }
            due("element", x.element(s, 0), 7, s, 0);
            due("element", x.element(s, 15), 7, s, 15);
        }
        for (int s : NO_SEQUENCE) {
            for (int k : NO_PLACE) {
                due("element", x.element(s, k), 0, s, k);
            }
        }
    }

    private static void knownNumbers() {
        for (int n = 1; n <= 21; n++) {
            SelectorGc x = finiteObject(n);
            due("known with so many", x.known(FINITE), atMost16(n), n);
            due("known of EMPTY", x.known(EMPTY), 0);
            due("known of ONE_ELEMENT", x.known(ONE_ELEMENT), 1);
            due("known of NUMBERS", x.known(NUMBERS), 16);
        }
    }

    private static void knownOutside() {
        SelectorGc x = new SelectorGc();
        for (int s : NO_SEQUENCE) {
            due("known", x.known(s), BAD, s);
        }
    }

    private static void firstAboveSmallest() {
        SelectorGc x = make(new int[][] {{0, COUNT, 1, 1}, {1, COUNT, 20, -1}, {2, WEAVE, 0, 1}, {3, WEAVE, 1, 0}});
        due("firstAbove(2, 0): 1, 20, ..", x.firstAbove(2, 0), 0);
        due("firstAbove(2, 1): 1, 20, ..", x.firstAbove(2, 1), 1);
        due("firstAbove(2, 19): 1, 20, ..", x.firstAbove(2, 19), 1);
        due("firstAbove(3, 19): 20, 1, ..", x.firstAbove(3, 19), 0);
        due("firstAbove(1, 0): falling", x.firstAbove(1, 0), 0);
        due("firstAbove(1, 19): falling", x.firstAbove(1, 19), 0);
    }

    private static void firstAboveEnds() {
        SelectorGc x = new SelectorGc();
        x.define(0, COUNT, 0, 1);
        for (int v = -1; v <= 14; v++) {
            due("firstAbove", x.firstAbove(0, v), v + 1, 0, v);
        }
        for (int v = 15; v <= 22; v++) {
            due("firstAbove", x.firstAbove(0, v), NONE, 0, v);
        }
    }

    private static void firstAboveOnlyReady() {
        for (int n = 1; n <= 15; n++) {
            SelectorGc x = finiteObject(n);
            due("firstAbove at the last ready one", x.firstAbove(FINITE, n - 2), n - 1, n);
            due("firstAbove after the last ready one", x.firstAbove(FINITE, n - 1), NONE, n);
            due("firstAbove(EMPTY, -1)", x.firstAbove(EMPTY, -1), NONE, n);
            due("firstAbove(EMPTY, MIN)", x.firstAbove(EMPTY, MIN), NONE, n);
        }
        SelectorGc x = new SelectorGc();
        x.define(0, CONS, -5, 1);
        x.define(1, SCAN, 1, 0);
        due("firstAbove(-5 alone, -5)", x.firstAbove(0, -5), NONE);
        due("firstAbove(-5 alone, -6)", x.firstAbove(0, -6), 0);
        x.define(1, COUNT, 9, 0);
        x.define(1, SCAN, 1, 0);
        due("firstAbove(-5 alone, -1) where 9 stood before", x.firstAbove(0, -1), NONE);
    }

    private static void firstAboveGreater() {
        SelectorGc x = make(new int[][] {{0, COUNT, 7, 0}, {1, COUNT, MAX, 0}, {2, COUNT, MIN, 0}, {3, COUNT, MIN, 1}});
        due("firstAbove(sevens, 6)", x.firstAbove(0, 6), 0);
        due("firstAbove(sevens, 7)", x.firstAbove(0, 7), NONE);
        due("firstAbove(sevens, MIN)", x.firstAbove(0, MIN), 0);
        due("firstAbove(MAXs, MAX - 1)", x.firstAbove(1, MAX - 1), 0);
        due("firstAbove(MAXs, MIN)", x.firstAbove(1, MIN), 0);
        due("firstAbove(MAXs, -1)", x.firstAbove(1, -1), 0);
        due("firstAbove(MAXs, MAX)", x.firstAbove(1, MAX), NONE);
        due("firstAbove(MINs, MIN)", x.firstAbove(2, MIN), NONE);
        due("firstAbove(MINs, MAX)", x.firstAbove(2, MAX), NONE);
        due("firstAbove(MINs, 1)", x.firstAbove(2, 1), NONE);
        due("firstAbove(from MIN on, MIN)", x.firstAbove(3, MIN), 1);
    }

    private static void firstAboveNone() {
        SelectorGc x = finiteObject(1);
        due("firstAbove(zeros, 0)", x.firstAbove(FREE, 0), NONE);
        due("firstAbove(NUMBERS, MAX)", x.firstAbove(NUMBERS, MAX), NONE);
        due("firstAbove(EMPTY, MIN)", x.firstAbove(EMPTY, MIN), NONE);
        due("NONE", NONE, -2);
    }

    private static void firstAboveOutside() {
        SelectorGc x = sevens();
        for (int s : NO_SEQUENCE) {
            due("firstAbove", x.firstAbove(s, 0), BAD, s, 0);
            due("firstAbove", x.firstAbove(s, MIN), BAD, s, MIN);
        }
        due("BAD", BAD, -1);
    }

    private static void agreeEnds() {
        SelectorGc x = new SelectorGc();
        x.define(0, COUNT, 0, 1);
        for (int k = -1; k <= 20; k++) {
            // Falling from 2 * k, so equal to 0, 1, 2, .. at place k alone.
            x.define(1, COUNT, 2 * k, -1);
            due("agree where equal at one place", x.agree(0, 1), k >= 0 && k <= 15 ? 1 : 0, k);
        }
        due("agree(2, 3)", x.agree(2, 3), 16);
        due("agree(2, 2)", x.agree(2, 2), 16);
    }

    private static void agreeOnlyReady() {
        for (int n = 1; n <= 17; n++) {
            SelectorGc x = finiteObject(n);
            due("agree(FINITE, NUMBERS)", x.agree(FINITE, NUMBERS), atMost16(n), n);
            due("agree(NUMBERS, FINITE)", x.agree(NUMBERS, FINITE), atMost16(n), n);
            due("agree(FINITE, FINITE)", x.agree(FINITE, FINITE), atMost16(n), n);
            due("agree(EMPTY, zeros)", x.agree(EMPTY, FREE), 0, n);
            due("agree(zeros, EMPTY)", x.agree(FREE, EMPTY), 0, n);
            due("agree(EMPTY, EMPTY)", x.agree(EMPTY, EMPTY), 0, n);
        }
    }

    private static void agreeEqual() {
        SelectorGc x = make(new int[][] {
            {0, COUNT, 0, 1}, {1, COUNT, 1, 1}, {2, WEAVE, 0, 1}, {3, WEAVE, 0, 0}, {4, COUNT, MIN, 0}, {5, COUNT, MAX, 0}});
        due("agree one apart", x.agree(0, 1), 0);
        due("agree at every other place", x.agree(2, 3), 8);
        due("agree at every other place, turned", x.agree(3, 2), 8);
        due("agree MIN and MAX", x.agree(4, 5), 0);
        due("agree MIN and MIN", x.agree(4, 4), 16);
    }

    private static void agreeFirstOutside() {
        SelectorGc x = new SelectorGc();
        for (int s : NO_SEQUENCE) {
            due("agree", x.agree(s, 0), BAD, s, 0);
            due("agree", x.agree(s, 5), BAD, s, 5);
            due("agree", x.agree(s, s), BAD, s, s);
        }
    }

    private static void agreeSecondOutside() {
        SelectorGc x = new SelectorGc();
        for (int t : NO_SEQUENCE) {
            due("agree", x.agree(0, t), BAD, 0, t);
            due("agree", x.agree(5, t), BAD, 5, t);
        }
    }

    private static void kindOfEach() {
        for (int s = 0; s < 6; s++) {
            SelectorGc x = new SelectorGc();
            for (int kind = 0; kind <= 8; kind++) {
                x.define(s, kind, 1, 2);
                due("kind", x.kind(s), kind, s);
            }
            x.define(s, 9, 1, 2);
            due("kind after a refused define", x.kind(s), MERGE, s);
        }
    }

    private static void kindOutside() {
        SelectorGc x = new SelectorGc();
        for (int s : NO_SEQUENCE) {
            due("kind", x.kind(s), BAD, s);
        }
    }

    private static void resetAll() {
        SelectorGc x = new SelectorGc();
        for (int s = 0; s < 6; s++) {
            x.define(s, TAIL, s, 0);
        }
        x.reset();
        zeros(x);
        x = sevens();
        x.reset();
        zeros(x);
        x = new SelectorGc();
        x.reset();
        x.reset();
        zeros(x);
    }

    private static void resetForgets() {
        SelectorGc x = new SelectorGc();
        for (int s = 0; s < 6; s++) {
            x.define(s, CONS, 8, s);
        }
        x.define(0, MERGE, 1, 2);
        x.reset();
        x.define(0, MERGE, 1, 2);
        elements(x, 0, 0, 0, 0);
        x.define(1, COUNT, -2, 1);
        elements(x, 0, -2, -1, 0, 0);
        due("kind(2)", x.kind(2), COUNT);
    }

    private static void refusedSequenceChangesNothing() {
        for (int s : NO_SEQUENCE) {
            SelectorGc x = severalKinds();
            String before = answers(x);
            for (int kind = 0; kind <= 8; kind++) {
                x.define(s, kind, 1, 2);
            }
            due("answers as before, s", answers(x).equals(before), true, s);
        }
    }

    private static void refusedKindChangesNothing() {
        for (int kind : NO_KIND) {
            SelectorGc x = severalKinds();
            String before = answers(x);
            for (int s = 0; s < 6; s++) {
                x.define(s, kind, 1, 2);
            }
            due("answers as before, kind", answers(x).equals(before), true, kind);
        }
    }

    private static void refusedFirstChangesNothing() {
        for (int a : NO_SEQUENCE) {
            SelectorGc x = severalKinds();
            String before = answers(x);
            for (int kind : new int[] {TAIL, ADD, MUL, SCAN, WEAVE, MERGE}) {
                for (int s = 0; s < 6; s++) {
                    x.define(s, kind, a, 2);
                }
            }
            due("answers as before, a", answers(x).equals(before), true, a);
            afterwardsAsIfNeverAsked(x);
        }
    }

    private static void refusedSecondChangesNothing() {
        for (int b : NO_SEQUENCE) {
            SelectorGc x = severalKinds();
            String before = answers(x);
            for (int kind : new int[] {CONS, ADD, MUL, SCALE, WEAVE, MERGE}) {
                for (int s = 0; s < 6; s++) {
                    x.define(s, kind, 1, b);
                }
            }
            due("answers as before, b", answers(x).equals(before), true, b);
            afterwardsAsIfNeverAsked(x);
        }
    }

    // A refused definition may not come to light later either, when the next one makes all elements anew.
    private static void afterwardsAsIfNeverAsked(SelectorGc x) {
        SelectorGc y = severalKinds();
        x.define(3, COUNT, 2, 5);
        y.define(3, COUNT, 2, 5);
        due("answers after the next definition", answers(x).equals(answers(y)), true);
    }

    private static void refusedQuestionsChangeNothing() {
        for (int s : NO_SEQUENCE) {
            SelectorGc x = severalKinds();
            String before = answers(x);
            x.ready(s, 0);
            x.element(s, 0);
            x.known(s);
            x.firstAbove(s, 0);
            x.agree(s, 0);
            x.agree(0, s);
            x.kind(s);
            due("answers as before, s", answers(x).equals(before), true, s);
        }
        for (int k : NO_PLACE) {
            SelectorGc x = severalKinds();
            String before = answers(x);
            for (int s = 0; s < 6; s++) {
                x.ready(s, k);
                x.element(s, k);
            }
            due("answers as before, k", answers(x).equals(before), true, k);
        }
    }

    private static void answeredQuestionsChangeNothing() {
        SelectorGc x = severalKinds();
        String before = answers(x);
        for (int s = 0; s < 6; s++) {
            x.ready(s, 15);
            x.firstAbove(s, MAX);
            x.firstAbove(s, 0);
            x.agree(s, 5 - s);
        }
        due("answers as before", answers(x).equals(before), true);
    }

    private static void badBeforeNone() {
        SelectorGc x = new SelectorGc();
        for (int s : NO_SEQUENCE) {
            due("firstAbove", x.firstAbove(s, MAX), BAD, s, MAX);
            due("firstAbove", x.firstAbove(s, 0), BAD, s, 0);
        }
        due("firstAbove(0, MAX)", x.firstAbove(0, MAX), NONE);
        due("firstAbove(5, 0)", x.firstAbove(5, 0), NONE);
        for (int s = 0; s < 6; s++) {
            x.define(s, SCAN, s, 0);
        }
        for (int s : NO_SEQUENCE) {
            due("firstAbove with nothing ready", x.firstAbove(s, MIN), BAD, s, MIN);
        }
    }

    private static SelectorGc make(int[][] definitions) {
        SelectorGc x = new SelectorGc();
        for (int[] d : definitions) {
            due("define", x.define(d[0], d[1], d[2], d[3]), true, d);
        }
        return x;
    }

    // FINITE is 0, 1, .. up to n - 1 and then ends: the merge takes the one element n - 1 and waits for another one.
    private static SelectorGc finiteObject(int n) {
        return make(new int[][] {
            {EMPTY, TAIL, EMPTY, 0}, {NUMBERS, COUNT, 0, 1}, {ONE_ELEMENT, CONS, n - 1, EMPTY},
            {FINITE, MERGE, ONE_ELEMENT, NUMBERS}});
    }

    // Sequences 0 to length - 1, each defined by the next one, the last one by sequence 0.
    private static SelectorGc ring(int length, int kind) {
        SelectorGc x = new SelectorGc();
        for (int s = 0; s < length; s++) {
            x.define(s, kind, (s + 1) % length, (s + 1) % length);
        }
        return x;
    }

    private static SelectorGc sevens() {
        SelectorGc x = new SelectorGc();
        for (int s = 0; s < 6; s++) {
            x.define(s, COUNT, 7, 0);
        }
        return x;
    }

    private static SelectorGc severalKinds() {
        return make(new int[][] {
            {0, CONS, 7, 1}, {1, CONS, 8, 2}, {2, TAIL, 2, 0}, {3, COUNT, 1, 1}, {4, MERGE, 0, 3}, {5, WEAVE, 3, 4}});
    }

    private static void zeros(SelectorGc x) {
        for (int s = 0; s < 6; s++) {
            due("kind", x.kind(s), COUNT, s);
            due("known", x.known(s), 16, s);
            due("firstAbove", x.firstAbove(s, -1), 0, s, -1);
            due("firstAbove", x.firstAbove(s, 0), NONE, s, 0);
            for (int k = 0; k <= 15; k++) {
                due("ready", x.ready(s, k), true, s, k);
                due("element", x.element(s, k), 0, s, k);
            }
        }
    }

    // Elements that are 0 without being ready are told apart by known.
    private static String answers(SelectorGc x) {
        StringBuilder text = new StringBuilder();
        for (int s = 0; s < 6; s++) {
            text.append(x.kind(s)).append(' ').append(x.known(s)).append(':');
            for (int k = 0; k <= 15; k++) {
                text.append(x.element(s, k)).append(' ');
            }
        }
        return text.toString();
    }

    private static int atMost16(int n) {
        return n < 16 ? n : 16;
    }

    private static void test(String sentence, Runnable body) {
        label = sentence;
        tests++;
        // A call that throws is a fault of its own sentence and must not hide the tests after it.
        try {
            body.run();
        } catch (RuntimeException | StackOverflowError e) {
            wrong++;
            System.out.println("[" + label + "] threw " + e);
        }
    }

    private static void elements(SelectorGc x, int s, int... want) {
        for (int k = 0; k < want.length; k++) {
            due("element", x.element(s, k), want[k], s, k);
        }
    }

    private static void due(String what, boolean got, boolean want, int... numbers) {
        due(what, got ? 1 : 0, want ? 1 : 0, numbers);
    }

    private static void due(String what, int got, int want, int... numbers) {
        if (got != want) {
            wrong++;
            String with = numbers.length == 0 ? "" : java.util.Arrays.toString(numbers);
            System.out.println("[" + label + "] " + what + with + " answered " + got + ", due is " + want);
        }
    }
}
