import java.util.ArrayList;
import java.util.List;
import java.util.Random;
import java.util.TreeMap;

/**
 * Long runs of mixed calls, each answer held against a plain model over TreeMap. A second
 * object gets the same calls with tidy before each, which must change no answer.
 */
public final class ModelTest {
    private static final int RUNS = 1500;
    private static final int CALLS = 512;
    private static final int LIMIT = 60;
    private static final int MOST_SHOWN = 20;
    private static final int[] ODD_INTS = {Integer.MIN_VALUE, -4096, -1, 0, 4095, 4096, Integer.MAX_VALUE};

    private static int wrong = 0;

    /** The document in its shortest form; a batch row is {on, key, value}. */
    private static final class Model {
        TreeMap<Integer, Integer> map = new TreeMap<>();
        final List<int[]> batch = new ArrayList<>();

        static boolean outside(int key) {
            return key < 0 || key > 4095;
        }

        int put(int key, int value) {
            if (outside(key) || !map.containsKey(key) && map.size() == LIMIT) {
                return -1;
            }
            return map.put(key, value) == null ? 1 : 0;
        }

        int swap(int key, int expected, int value) {
            if (!map.containsKey(key) || map.get(key) != expected) {
                return 0;
            }
            map.put(key, value);
            return 1;
        }

        int count(int low, int high) {
            return low > high ? 0 : map.subMap(low, true, high, true).size();
        }

        int stage(int on, int key, int value) {
            if (outside(key) || batch.size() == 6) {
                return -1;
            }
            batch.add(new int[] {on, key, value});
            return batch.size();
        }

        int commit() {
            TreeMap<Integer, Integer> after = new TreeMap<>(map);
            boolean fits = true;
            for (int[] change : batch) {
                if (change[0] == 1) {
                    after.put(change[1], change[2]);
                } else {
                    after.remove(change[1]);
                }
                fits = fits && after.size() <= LIMIT;
            }
            batch.clear();
            if (!fits) {
                return -1;
            }
            map = after;
            return map.size();
        }

        int call(int kind, int a, int b, int c) {
            switch (kind) {
                case 0: return put(a, b);
                case 1: return map.remove(a) == null ? 0 : 1;
                case 2: return map.getOrDefault(a, 0);
                case 3: return map.containsKey(a) ? 1 : 0;
                case 4: return map.ceilingKey(a) == null ? -1 : map.ceilingKey(a);
                case 5: return map.floorKey(a) == null ? -1 : map.floorKey(a);
                case 6: return count(a, b);
                case 7: return swap(a, b, c);
                case 8: return stage(1, a, b);
                case 9: return stage(0, a, b);
                case 10: return commit();
                default: return 0;
            }
        }
    }

    private static int call(DeltaTree x, int kind, int a, int b, int c) {
        switch (kind) {
            case 0: return x.put(a, b);
            case 1: return x.remove(a);
            case 2: return x.get(a);
            case 3: return x.has(a);
            case 4: return x.next(a);
            case 5: return x.previous(a);
            case 6: return x.count(a, b);
            case 7: return x.swap(a, b, c);
            case 8: return x.stage(true, a, b);
            case 9: return x.stage(false, a, b);
            case 10: return x.commit();
            default: x.tidy(); return 0;
        }
    }

    private static void due(String where, int got, int want) {
        if (got != want) {
            wrong++;
            if (wrong <= MOST_SHOWN) {
                System.out.println(where + " answered " + got + ", due is " + want);
            }
        }
    }

    /** How often each kind of call comes; a run leans to filling, emptying or batches. */
    private static int kind(Random random, int lean) {
        int roll = random.nextInt(24);
        if (roll < 12) {
            return roll;
        }
        switch (lean) {
            case 0: return 0;
            case 1: return roll < 18 ? 0 : 1;
            case 2: return roll < 14 ? 0 : roll < 20 ? 8 : roll < 22 ? 9 : 10;
            default: return roll < 22 ? 8 : 10;
        }
    }

    private static int key(Random random, int span, int first) {
        if (random.nextInt(25) == 0) {
            return ODD_INTS[random.nextInt(ODD_INTS.length)];
        }
        return first + random.nextInt(span);
    }

    /** Answers are held against the model only up to the 512th call: later ones are free. */
    private static void run(int seed, int calls) {
        Random random = new Random(seed);
        int[] spans = {8, 61, 66, 80, 200, 4096};
        int span = spans[seed % spans.length];
        int first = random.nextInt(4096 - span + 1);
        int lean = seed / spans.length % 4;
        DeltaTree plain = new DeltaTree();
        DeltaTree tidied = new DeltaTree();
        Model model = new Model();
        for (int i = 0; i < calls; i++) {
            int kind = kind(random, lean);
            int a = key(random, span, first);
            int b = kind == 6 ? key(random, span, first) : random.nextInt(3) - 1;
            int c = random.nextInt(3) - 1;
            int want = model.call(kind, a, b, c);
            String where = "seed " + seed + ", call " + i + ": kind " + kind + " (" + a + ", " + b + ", " + c + ")";
            int got = call(plain, kind, a, b, c);
            tidied.tidy();
            int gotTidied = call(tidied, kind, a, b, c);
            if (i < CALLS) {
                due(where, got, want);
            }
            // The tidied object is called twice for each call of the plain one.
            if (i < CALLS / 2) {
                due(where + " after tidy", gotTidied, want);
            }
        }
    }

    public static void main(String[] args) {
        for (int seed = 0; seed < RUNS; seed++) {
            run(seed, CALLS);
        }
        // No answer is promised here, but LANGUAGE.md, rule 7, lets no call ever throw.
        for (int seed = 0; seed < 24; seed++) {
            run(seed, 20000);
        }
        System.out.println(wrong == 0 ? "all answers are as due" : wrong + " answers are not as due");
        if (wrong != 0) {
            System.exit(1);
        }
    }
}
