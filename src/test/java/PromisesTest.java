/**
 * One method for each promise of the document: ordinary inputs, edges and wrong inputs. No
 * object is used for more than the 512 calls whose answers are promised.
 */
public final class PromisesTest {
    private static final int LOWEST = Integer.MIN_VALUE;
    private static final int HIGHEST = Integer.MAX_VALUE;

    private static int wrong = 0;
    private static int promise = 0;

    private static void due(String call, int got, int want) {
        if (got != want) {
            wrong++;
            System.out.println("promise " + promise + ": " + call + " answered " + got + ", due is " + want);
        }
    }

    /** A map with the keys 0, 10, 20 ..; the value of a key is key + 1. */
    private static DeltaTree filled(int entries) {
        DeltaTree x = new DeltaTree();
        for (int i = 0; i < entries; i++) {
            // 67 is a prime above 60, so each key comes once, and not in rising order.
            int key = 10 * (67 * i % entries);
            due("put(" + key + ") while filling", x.put(key, key + 1), 1);
        }
        return x;
    }

    /** That the map is still the one that filled(entries) made. */
    private static void unchanged(DeltaTree x, int entries) {
        due("count of all after a refusal", x.count(LOWEST, HIGHEST), entries);
        for (int i = 0; i < entries; i++) {
            due("get(" + 10 * i + ") after a refusal", x.get(10 * i), 10 * i + 1);
        }
    }

    private static void aNewObject() {
        promise = 1;
        DeltaTree x = new DeltaTree();
        due("count of all", x.count(LOWEST, HIGHEST), 0);
        due("next(lowest)", x.next(LOWEST), -1);
        due("previous(highest)", x.previous(HIGHEST), -1);
        for (int key = 0; key <= 4095; key++) {
            DeltaTree made = new DeltaTree();
            due("has(" + key + ")", made.has(key), 0);
            due("get(" + key + ")", made.get(key), 0);
        }
        due("commit of no batch", x.commit(), 0);
        due("first stage", x.stage(true, 1, 1), 1);

        DeltaTree one = new DeltaTree();
        DeltaTree other = new DeltaTree();
        one.put(5, 6);
        one.stage(true, 7, 8);
        due("has(5) of another object", other.has(5), 0);
        due("commit of another object", other.commit(), 0);
    }

    private static void put() {
        promise = 2;
        DeltaTree x = new DeltaTree();
        due("put(7, 70)", x.put(7, 70), 1);
        due("get(7)", x.get(7), 70);
        due("put(7, 71)", x.put(7, 71), 0);
        due("get(7)", x.get(7), 71);
        due("put(7, 71) again", x.put(7, 71), 0);
        due("count", x.count(0, 4095), 1);
        due("put(0, lowest)", x.put(0, LOWEST), 1);
        due("put(4095, highest)", x.put(4095, HIGHEST), 1);
        due("get(0)", x.get(0), LOWEST);
        due("get(4095)", x.get(4095), HIGHEST);
        due("put(8, 0)", x.put(8, 0), 1);
        due("put(8, 0) again", x.put(8, 0), 0);
        due("put after remove", x.remove(7) + x.put(7, 72), 2);
        due("get(7)", x.get(7), 72);

        DeltaTree full = filled(60);
        int[] outside = {LOWEST, -1, 4096, HIGHEST};
        for (int key : outside) {
            due("put(" + key + ") on empty", new DeltaTree().put(key, 1), -1);
            due("put(" + key + ") on full", full.put(key, 1), -1);
        }
        due("put of a 61st", full.put(5, 1), -1);
        due("has(5)", full.has(5), 0);
        unchanged(full, 60);
        due("put on a held key of a full map", full.put(590, -9), 0);
        due("get(590)", full.get(590), -9);
        due("remove(0)", full.remove(0), 1);
        due("put of a 60th", full.put(5, 1), 1);
        due("put of a 61st", full.put(0, 1), -1);
        due("count", full.count(0, 4095), 60);
    }

    private static void remove() {
        promise = 3;
        DeltaTree x = filled(40);
        due("remove(5)", x.remove(5), 0);
        unchanged(x, 40);
        for (int i = 0; i < 40; i++) {
            due("remove(" + 10 * i + ")", x.remove(10 * i), 1);
            due("has(" + 10 * i + ")", x.has(10 * i), 0);
            due("remove(" + 10 * i + ") again", x.remove(10 * i), 0);
            due("count", x.count(0, 4095), 39 - i);
        }
        due("next(0)", x.next(0), -1);
        due("commit tells none held", x.commit(), 0);
    }

    private static void get() {
        promise = 4;
        DeltaTree x = filled(60);
        unchanged(x, 60);
        due("get(1)", x.get(1), 0);
        due("get(589)", x.get(589), 0);
        x.remove(30);
        due("get(30) after remove", x.get(30), 0);
        x.put(40, 0);
        due("get(40)", x.get(40), 0);
        x.put(50, -5);
        due("get(50)", x.get(50), -5);
    }

    private static void has() {
        promise = 5;
        DeltaTree x = filled(60);
        for (int key = 0; key < 600; key += 2) {
            due("has(" + key + ")", x.has(key), key % 10 == 0 ? 1 : 0);
        }
        x.put(40, 0);
        due("has(40) with value 0", x.has(40), 1);
        x.remove(40);
        due("has(40) after remove", x.has(40), 0);
        x.put(40, 3);
        due("has(40) after put", x.has(40), 1);
    }

    private static void next() {
        promise = 6;
        DeltaTree x = filled(60);
        for (int from = -21; from <= 590; from += 3) {
            int want = from <= 0 ? 0 : (from + 9) / 10 * 10;
            due("next(" + from + ")", x.next(from), want);
        }
        due("next(591)", x.next(591), -1);
        x.remove(300);
        x.remove(310);
        due("next(291)", x.next(291), 320);
        x.remove(590);
        due("next(581)", x.next(581), -1);
        x.put(4095, 1);
        due("next(581)", x.next(581), 4095);
        due("next(4095)", x.next(4095), 4095);
    }

    private static void previous() {
        promise = 7;
        DeltaTree x = filled(60);
        for (int from = 0; from <= 599; from += 3) {
            due("previous(" + from + ")", x.previous(from), from / 10 * 10);
        }
        due("previous(4095)", x.previous(4095), 590);
        x.remove(300);
        x.remove(310);
        due("previous(319)", x.previous(319), 290);
        x.remove(0);
        due("previous(9)", x.previous(9), -1);
        x.put(4095, 1);
        due("previous(4095)", x.previous(4095), 4095);
        due("previous(4094)", x.previous(4094), 590);
    }

    private static void count() {
        promise = 8;
        DeltaTree x = filled(60);
        due("count(0, 4095)", x.count(0, 4095), 60);
        due("count(0, 0)", x.count(0, 0), 1);
        due("count(590, 590)", x.count(590, 590), 1);
        due("count(1, 9)", x.count(1, 9), 0);
        due("count(10, 20)", x.count(10, 20), 2);
        due("count(11, 19)", x.count(11, 19), 0);
        due("count(9, 21)", x.count(9, 21), 2);
        for (int i = 0; i < 5; i++) {
            x.put(10, i);
        }
        due("count after puts on one key", x.count(0, 4095), 60);
        x.remove(10);
        due("count(10, 20) after remove", x.count(10, 20), 1);
        x.put(10, 1);
        due("count(10, 20) after put", x.count(10, 20), 2);
    }

    private static void swap() {
        promise = 9;
        DeltaTree x = filled(60);
        due("swap(30, 32, 5)", x.swap(30, 32, 5), 0);
        due("swap(31, 0, 5)", x.swap(31, 0, 5), 0);
        due("swap(31, 32, 5)", x.swap(31, 32, 5), 0);
        unchanged(x, 60);
        due("swap(30, 31, 5)", x.swap(30, 31, 5), 1);
        due("get(30)", x.get(30), 5);
        due("swap(30, 5, 5)", x.swap(30, 5, 5), 1);
        due("swap(30, 31, 6)", x.swap(30, 31, 6), 0);
        due("swap(30, 5, lowest)", x.swap(30, 5, LOWEST), 1);
        due("swap(30, lowest, 0)", x.swap(30, LOWEST, 0), 1);
        due("swap(30, 0, 9)", x.swap(30, 0, 9), 1);
        due("get(30)", x.get(30), 9);
        due("count", x.count(0, 4095), 60);
        x.remove(30);
        due("swap(30, 9, 1) after remove", x.swap(30, 9, 1), 0);
        due("swap(30, 0, 1) after remove", x.swap(30, 0, 1), 0);
        due("has(30)", x.has(30), 0);
    }

    private static void stage() {
        promise = 10;
        DeltaTree x = filled(5);
        int[] outside = {LOWEST, -1, 4096, HIGHEST};
        for (int key : outside) {
            due("stage(true, " + key + ")", x.stage(true, key, 1), -1);
            due("stage(false, " + key + ")", x.stage(false, key, 1), -1);
        }
        due("stage(true, 0)", x.stage(true, 0, 100), 1);
        due("stage(false, 10)", x.stage(false, 10, 0), 2);
        due("stage(true, 4095)", x.stage(true, 4095, 7), 3);
        due("stage(true, 4095) again", x.stage(true, 4095, 8), 4);
        due("stage(false, 77) without entry", x.stage(false, 77, 0), 5);
        due("stage(true, 4096) with 5 waiting", x.stage(true, 4096, 0), -1);
        due("stage(true, 20)", x.stage(true, 20, 200), 6);
        due("stage(true) of a 7th", x.stage(true, 30, 300), -1);
        due("stage(false) of a 7th", x.stage(false, 30, 300), -1);
        unchanged(x, 5);
        due("has(4095) while it waits", x.has(4095), 0);
        due("next(41) while it waits", x.next(41), -1);
        due("previous(4095) while it waits", x.previous(4095), 40);
        due("swap(0, 100, 1) while it waits", x.swap(0, 100, 1), 0);
        due("put(4095) while it waits", x.put(4095, 1), 1);
        due("remove(10) while it waits", x.remove(10), 1);
        due("commit", x.commit(), 5);
        due("get(0)", x.get(0), 100);
        due("get(4095)", x.get(4095), 8);
        due("get(20)", x.get(20), 200);
        due("get(30)", x.get(30), 31);
        due("first stage after commit", x.stage(false, 1, 1), 1);
    }

    private static void commit() {
        promise = 11;
        for (int entries = 0; entries <= 54; entries++) {
            DeltaTree x = filled(entries);
            for (int i = 0; i < 6; i++) {
                due("stage", x.stage(true, 4000 + i, i), i + 1);
            }
            due("commit of 6 with " + entries + " held", x.commit(), entries + 6);
            due("get(4005)", x.get(4005), 5);
            due("count(4000, 4005)", x.count(4000, 4005), 6);
            due("commit of no batch", x.commit(), entries + 6);
        }
        inTheirOrder();
        refused();
        atTheLimit();
    }

    private static void inTheirOrder() {
        DeltaTree x = filled(3);
        x.stage(true, 5, 1);
        x.stage(true, 5, 2);
        x.stage(false, 10, 0);
        x.stage(true, 20, 9);
        x.stage(false, 20, 0);
        x.stage(true, 10, 8);
        due("commit", x.commit(), 3);
        due("get(5)", x.get(5), 2);
        due("get(10)", x.get(10), 8);
        due("has(20)", x.has(20), 0);
    }

    private static void refused() {
        // From 55 on a batch of 6 new keys goes above 60 at its (61 - entries)th change.
        for (int entries = 55; entries <= 60; entries++) {
            DeltaTree x = filled(entries);
            for (int i = 0; i < 6; i++) {
                x.stage(true, 4000 + i, i);
            }
            due("commit of 6 with " + entries + " held", x.commit(), -1);
            unchanged(x, entries);
            due("next(4000)", x.next(4000), -1);
            due("commit after a refused one", x.commit(), entries);
            due("first stage after a refused commit", x.stage(true, 0, 1), 1);
        }
        DeltaTree x = filled(60);
        x.stage(true, 0, -1);
        x.stage(false, 10, 0);
        x.stage(true, 10, -2);
        x.stage(true, 5, 5);
        x.stage(false, 5, 0);
        due("commit that is above 60 only for a time", x.commit(), -1);
        unchanged(x, 60);
        due("put of a 61st after that", x.put(5, 1), -1);
        for (int puts = 0; puts <= 40; puts++) {
            refusedAfter(puts);
        }
    }

    /** A page may be due to be made anew at any change of the batch; none of it may stay. */
    private static void refusedAfter(int puts) {
        DeltaTree x = filled(60);
        for (int i = 0; i < puts; i++) {
            x.put(0, 1);
        }
        x.stage(false, 0, 0);
        x.stage(false, 10, 0);
        x.stage(true, 5, 5);
        x.stage(true, 20, -20);
        x.stage(true, 6, 6);
        x.stage(true, 7, 7);
        due("commit refused at its last change after " + puts + " puts", x.commit(), -1);
        unchanged(x, 60);
        due("commit after it", x.commit(), 60);
    }

    private static void atTheLimit() {
        DeltaTree x = filled(60);
        x.stage(false, 0, 0);
        x.stage(true, 5, 5);
        x.stage(true, 10, -10);
        x.stage(false, 5, 0);
        x.stage(true, 6, 6);
        due("commit that stays at 60", x.commit(), 60);
        due("has(0)", x.has(0), 0);
        due("has(5)", x.has(5), 0);
        due("get(6)", x.get(6), 6);
        due("get(10)", x.get(10), -10);
        x.stage(false, 4095, 0);
        x.stage(true, 5, 5);
        due("commit whose remove finds no entry", x.commit(), -1);
        due("has(5)", x.has(5), 0);
        x.stage(false, 6, 0);
        x.stage(false, 6, 0);
        x.stage(true, 7, 7);
        x.stage(true, 8, 8);
        due("commit that removes one key twice", x.commit(), -1);
        due("get(6)", x.get(6), 6);
        due("count", x.count(0, 4095), 60);
    }

    private static void tidy() {
        promise = 12;
        DeltaTree x = new DeltaTree();
        x.tidy();
        due("count of all", x.count(LOWEST, HIGHEST), 0);
        x = filled(60);
        x.tidy();
        unchanged(x, 60);
        x.tidy();
        unchanged(x, 60);
        due("put of a 61st", x.put(5, 1), -1);
        x.remove(590);
        x.put(0, -1);
        x.stage(true, 5, 55);
        x.stage(false, 10, 0);
        x.tidy();
        due("has(590)", x.has(590), 0);
        due("get(0)", x.get(0), -1);
        due("has(5) while it waits", x.has(5), 0);
        due("stage after tidy", x.stage(true, 20, 22), 3);
        x.tidy();
        due("commit after tidy", x.commit(), 59);
        due("get(5)", x.get(5), 55);
        due("has(10)", x.has(10), 0);
        due("get(20)", x.get(20), 22);
    }

    private static void orderAndLimits() {
        promise = 13;
        DeltaTree x = filled(60);
        int[] outside = {LOWEST, -4096, -1, 4096, 4097, 8192, 65536, HIGHEST};
        for (int key : outside) {
            due("remove(" + key + ")", x.remove(key), 0);
            due("get(" + key + ")", x.get(key), 0);
            due("has(" + key + ")", x.has(key), 0);
            due("swap(" + key + ", 0, 1)", x.swap(key, 0, 1), 0);
            due("swap(" + key + ", 1, 2)", x.swap(key, 1, 2), 0);
        }
        unchanged(x, 60);
        due("next(lowest)", x.next(LOWEST), 0);
        due("next(-1)", x.next(-1), 0);
        due("next(4096)", x.next(4096), -1);
        due("next(highest)", x.next(HIGHEST), -1);
        due("previous(lowest)", x.previous(LOWEST), -1);
        due("previous(-1)", x.previous(-1), -1);
        due("previous(4096)", x.previous(4096), 590);
        due("previous(highest)", x.previous(HIGHEST), 590);
        due("count(lowest, highest)", x.count(LOWEST, HIGHEST), 60);
        due("count(highest, lowest)", x.count(HIGHEST, LOWEST), 0);
        due("count(20, 10)", x.count(20, 10), 0);
        due("count(10, 9)", x.count(10, 9), 0);
        due("count(lowest, -1)", x.count(LOWEST, -1), 0);
        due("count(4096, highest)", x.count(4096, HIGHEST), 0);
        due("count(lowest, 0)", x.count(LOWEST, 0), 1);
        due("stage(false, 0, lowest)", x.stage(false, 0, LOWEST), 1);
        due("stage(false, 10, highest)", x.stage(false, 10, HIGHEST), 2);
        due("stage(false, 20, 0)", x.stage(false, 20, 0), 3);
        due("commit", x.commit(), 57);
        due("get(0)", x.get(0), 0);
        due("has(10)", x.has(10), 0);
    }

    public static void main(String[] args) {
        aNewObject();
        put();
        remove();
        get();
        has();
        next();
        previous();
        count();
        swap();
        stage();
        commit();
        tidy();
        orderAndLimits();
        System.out.println(wrong == 0 ? "all answers are as due" : wrong + " answers are not as due");
        if (wrong != 0) {
            System.exit(1);
        }
    }
}
