import java.util.HashMap;
import java.util.HashSet;
import java.util.Map;
import java.util.Set;

// Runs of calls, always the same ones, against a top-down evaluation that follows the document's rules word by word.
public final class SelectorGcModel {
    private static final int RUNS = 4000;
    private static final int CALLS = 512;
    private static final int SHOWN = 20;

    private static int wrong = 0;
    private static long seed = 20250101L;

    /** The definitions of six sequences and, by need, their elements. */
    private static final class Model {
        // Far above 20, so that the bound of 20 in the class is tested and not assumed.
        private static final int TOO_FAR = 60;

        final int[] kinds = new int[6];
        final int[] as = new int[6];
        final int[] bs = new int[6];
        private final Map<Integer, Integer> found = new HashMap<>();
        private final Set<Integer> notReady = new HashSet<>();
        private final Set<Integer> underWay = new HashSet<>();

        boolean define(int s, int kind, int a, int b) {
            if (outside(s, 5) || outside(kind, 8)) {
                return false;
            }
            boolean aIsSequence = kind == 2 || kind == 3 || kind == 4 || kind == 6 || kind == 7 || kind == 8;
            boolean bIsSequence = kind == 1 || kind == 3 || kind == 4 || kind == 5 || kind == 7 || kind == 8;
            if (aIsSequence && outside(a, 5) || bIsSequence && outside(b, 5)) {
                return false;
            }
            kinds[s] = kind;
            as[s] = a;
            bs[s] = b;
            forget();
            return true;
        }

        void reset() {
            for (int s = 0; s < 6; s++) {
                kinds[s] = 0;
                as[s] = 0;
                bs[s] = 0;
            }
            forget();
        }

        private void forget() {
            found.clear();
            notReady.clear();
        }

        /** The element, or null if its pair is not ready. */
        Integer get(int s, int k) {
            int pair = s * 1000 + k;
            if (found.containsKey(pair)) {
                return found.get(pair);
            }
            // A pair that is asked for while it is under way needs itself.
            if (k > TOO_FAR || notReady.contains(pair) || !underWay.add(pair)) {
                return null;
            }
            Integer value = k > 0 && get(s, k - 1) == null ? null : compute(s, k);
            underWay.remove(pair);
            if (value == null) {
                notReady.add(pair);
            } else {
                found.put(pair, value);
            }
            return value;
        }

        private Integer compute(int s, int k) {
            int a = as[s];
            int b = bs[s];
            switch (kinds[s]) {
                case 0: return count(a, b, k);
                case 1: return k == 0 ? (Integer) a : get(b, k - 1);
                case 2: return get(a, k + 1);
                case 3: return combine(get(a, k), get(b, k), false);
                case 4: return combine(get(a, k), get(b, k), true);
                case 5: return combine(a, get(b, k), true);
                case 6: return scan(a, k);
                case 7: return k % 2 == 0 ? get(a, k / 2) : get(b, (k - 1) / 2);
                default: return merge(a, b, k);
            }
        }

        private static Integer count(int a, int b, int k) {
            int value = a;
            for (int n = 0; n < k; n++) {
                value += b;
            }
            return value;
        }

        private static Integer combine(Integer x, Integer y, boolean times) {
            if (x == null || y == null) {
                return null;
            }
            return (int) (times ? (long) x * (long) y : (long) x + (long) y);
        }

        private Integer scan(int a, int k) {
            Integer sum = 0;
            for (int n = 0; n <= k && sum != null; n++) {
                sum = combine(sum, get(a, n), false);
            }
            return sum;
        }

        // Makes all the steps from the beginning, without a memory of the places.
        private Integer merge(int a, int b, int k) {
            int i = 0;
            int j = 0;
            for (int step = 0; ; step++) {
                Integer x = get(a, i);
                Integer y = get(b, j);
                if (x == null || y == null) {
                    return null;
                }
                if (step == k) {
                    return Math.min(x, y);
                }
                if (x.intValue() <= y.intValue()) {
                    i++;
                }
                if (y.intValue() <= x.intValue()) {
                    j++;
                }
            }
        }

        boolean ready(int s, int k) {
            return !outside(s, 5) && !outside(k, 15) && get(s, k) != null;
        }

        int element(int s, int k) {
            return ready(s, k) ? get(s, k) : 0;
        }

        int known(int s) {
            return agree(s, s);
        }

        int firstAbove(int s, int v) {
            if (outside(s, 5)) {
                return -1;
            }
            for (int k = 0; k < 16; k++) {
                if (ready(s, k) && element(s, k) > v) {
                    return k;
                }
            }
            return -2;
        }

        int agree(int s, int t) {
            if (outside(s, 5) || outside(t, 5)) {
                return -1;
            }
            int equal = 0;
            for (int k = 0; k < 16; k++) {
                if (ready(s, k) && ready(t, k) && element(s, k) == element(t, k)) {
                    equal++;
                }
            }
            return equal;
        }

        int kind(int s) {
            return outside(s, 5) ? -1 : kinds[s];
        }

        private static boolean outside(int n, int last) {
            return n < 0 || n > last;
        }
    }

    public static void main(String[] args) {
        for (int run = 0; run < RUNS && wrong < SHOWN; run++) {
            oneRun(run);
        }
        System.out.println(wrong == 0 ? "all answers are as due" : wrong + " answers are not as due");
        if (wrong != 0) {
            System.exit(1);
        }
    }

    private static void oneRun(int run) {
        SelectorGc x = new SelectorGc();
        Model model = new Model();
        // Runs with many CONS and TAIL have long chains; the others mix all kinds.
        boolean chains = run % 3 == 0;
        StringBuilder history = new StringBuilder();
        for (int n = 0; n < CALLS && wrong < SHOWN; n++) {
            oneCall(x, model, chains, history);
        }
    }

    private static void oneCall(SelectorGc x, Model model, boolean chains, StringBuilder history) {
        int s = sequence();
        int t = sequence();
        int k = below(40) == 0 ? strange() : below(16);
        int v = number();
        int choice = below(200);
        if (choice == 0) {
            x.reset();
            model.reset();
            history.append(" reset()");
        } else if (choice < 60) {
            int kind = chains && below(2) == 0 ? 1 + below(2) : below(60) == 0 ? strange() : below(9);
            int a = kind == 0 || kind == 1 || kind == 5 ? number() : sequence();
            int b = kind == 0 ? number() : sequence();
            String call = " define(" + s + ", " + kind + ", " + a + ", " + b + ")";
            due(history, call, x.define(s, kind, a, b) ? 1 : 0, model.define(s, kind, a, b) ? 1 : 0);
            history.append(call);
        } else if (choice < 80) {
            due(history, " ready(" + s + ", " + k + ")", x.ready(s, k) ? 1 : 0, model.ready(s, k) ? 1 : 0);
        } else if (choice < 120) {
            due(history, " element(" + s + ", " + k + ")", x.element(s, k), model.element(s, k));
        } else if (choice < 140) {
            due(history, " known(" + s + ")", x.known(s), model.known(s));
        } else if (choice < 160) {
            due(history, " firstAbove(" + s + ", " + v + ")", x.firstAbove(s, v), model.firstAbove(s, v));
        } else if (choice < 190) {
            due(history, " agree(" + s + ", " + t + ")", x.agree(s, t), model.agree(s, t));
        } else {
            due(history, " kind(" + s + ")", x.kind(s), model.kind(s));
        }
    }

    private static int sequence() {
        return below(40) == 0 ? strange() : below(6);
    }

    private static int strange() {
        int[] numbers = {-1, -2, 6, 7, 9, 16, 20, 21, Integer.MIN_VALUE, Integer.MAX_VALUE};
        return numbers[below(numbers.length)];
    }

    private static int number() {
        return below(12) == 0 ? strange() : below(13) - 4;
    }

    // A generator of our own keeps every run the same on every machine.
    private static int below(int bound) {
        seed = seed * 6364136223846793005L + 1442695040888963407L;
        return (int) ((seed >>> 33) % bound);
    }

    private static void due(StringBuilder history, String call, int got, int want) {
        if (got != want) {
            wrong++;
            System.out.println("after" + history + ":" + call + " answered " + got + ", due is " + want);
        }
    }
}
