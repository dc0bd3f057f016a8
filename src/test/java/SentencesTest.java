import java.util.HashMap;
import java.util.Map;

/**
 * A test of its own for each sentence of the document that names a boundary case (too small,
 * too large, empty, full, a wrap-around, a refused call), in the document's order. Each names
 * its promise and the sentence, in the document's words.
 *
 * All of them are run many times: with more and more calls behind each object that leave no
 * trace, so that a page is made anew at every point of a test, and with tidy before each call.
 */
public final class SentencesTest {
    private static final int LOWEST = Integer.MIN_VALUE;
    private static final int HIGHEST = Integer.MAX_VALUE;
    private static final int MOST_CALLS = 512;
    private static final int MOST_CALLS_BEHIND = 20;
    private static final int MOST_SHOWN = 3;

    /** Most would be 0, 4095 or 20 if only their lowest 8, 12 or 16 bits were looked at. */
    private static final int[] OUTSIDE = {
        LOWEST, LOWEST + 1, LOWEST + 4095, -65536, -4097, -4096, -4095, -4076, -1,
        4096, 4097, 4116, 8191, 8192, 65536, 65556, 69631, HIGHEST - 4095, HIGHEST - 1, HIGHEST};

    private static final int[] VALUES = {
        LOWEST, LOWEST + 1, -65536, -32769, -129, -2, -1, 0, 1, 128, 32768, 65536, HIGHEST - 1, HIGHEST};

    private static final Map<String, Integer> WRONG = new HashMap<>();
    private static int sentences = 0;
    private static String sentence = "";
    private static String lastCall = "";
    private static int callsBehind = 0;
    private static boolean tidyFirst = false;

    /** A DeltaTree that tells its last call and is not used for more calls than are promised. */
    private static final class Tree {
        final DeltaTree tree = new DeltaTree();
        final boolean tidied;
        int calls = 0;

        Tree(boolean tidied) {
            this.tidied = tidied;
        }

        void tell(String call) {
            if (tidied) {
                tree.tidy();
                calls++;
            }
            calls++;
            lastCall = call;
            if (calls > MOST_CALLS) {
                throw new IllegalStateException("the test makes more than 512 calls: " + sentence);
            }
        }

        int put(int key, int value) {
            tell("put(" + key + ", " + value + ")");
            return tree.put(key, value);
        }

        int remove(int key) {
            tell("remove(" + key + ")");
            return tree.remove(key);
        }

        int get(int key) {
            tell("get(" + key + ")");
            return tree.get(key);
        }

        int has(int key) {
            tell("has(" + key + ")");
            return tree.has(key);
        }

        int next(int from) {
            tell("next(" + from + ")");
            return tree.next(from);
        }

        int previous(int from) {
            tell("previous(" + from + ")");
            return tree.previous(from);
        }

        int count(int low, int high) {
            tell("count(" + low + ", " + high + ")");
            return tree.count(low, high);
        }

        int swap(int key, int expected, int value) {
            tell("swap(" + key + ", " + expected + ", " + value + ")");
            return tree.swap(key, expected, value);
        }

        int stage(boolean on, int key, int value) {
            tell("stage(" + on + ", " + key + ", " + value + ")");
            return tree.stage(on, key, value);
        }

        int commit() {
            tell("commit()");
            return tree.commit();
        }

        void tidy() {
            tell("tidy()");
            tree.tidy();
        }
    }

    private static void sentence(String place, String words) {
        sentence = place + ", \"" + words + "\"";
        sentences++;
    }

    private static void sentence(int promise, String words) {
        sentence("Promise " + promise, words);
    }

    private static void due(int want, int got) {
        if (got == want) {
            return;
        }
        // Few of each sentence, so that none hides another.
        if (WRONG.merge(sentence, 1, Integer::sum) <= MOST_SHOWN) {
            System.out.println(sentence + ": " + lastCall + " answered " + got + ", due is " + want
                + " (calls behind it: " + callsBehind + (tidyFirst ? ", tidy before each call)" : ")"));
        }
    }

    private static Tree brandNew() {
        return new Tree(tidyFirst);
    }

    /** No entry and no batch, but calls behind it: an odd number is made up by a put too many. */
    private static Tree fresh() {
        Tree x = brandNew();
        int pairs = callsBehind / 2;
        if (pairs > 0 && callsBehind % 2 == 1) {
            due(1, x.put(2000, 1));
        }
        for (int i = 0; i < pairs; i++) {
            x.put(2000, 2);
            due(1, x.remove(2000));
        }
        return x;
    }

    /** The keys 0, 10, 20 .., each with the value key + 1. */
    private static Tree filled(int entries) {
        Tree x = fresh();
        for (int i = 0; i < entries; i++) {
            // 67 is a prime above 60, so each key comes once, and not in rising order.
            int key = 10 * (67 * i % entries);
            due(1, x.put(key, key + 1));
        }
        return x;
    }

    /** Holds the least and the greatest key; the values are 7 and 8. */
    private static Tree withBothEnds() {
        Tree x = fresh();
        due(1, x.put(0, 7));
        due(1, x.put(4095, 8));
        return x;
    }

    /** That the entries are those that filled(entries) made, and no other. */
    private static void unchanged(Tree x, int entries) {
        due(entries, x.count(LOWEST, HIGHEST));
        for (int i = 0; i < entries; i++) {
            due(10 * i + 1, x.get(10 * i));
        }
    }

    private static void empty(Tree x) {
        due(0, x.count(LOWEST, HIGHEST));
        due(-1, x.next(LOWEST));
        due(-1, x.previous(HIGHEST));
    }

    // What it is

    private static void callsUpToThe512th() {
        sentence("What it is", "An object is used for at most 512 calls after it has been made");
        for (int way = 0; way < 5; way++) {
            due(1, worn(way, 511).put(5, 5));
            due(0, worn(way, 511).put(0, 5));
            due(-1, worn(way, 511).put(4096, 5));
            due(1, worn(way, 511).remove(0));
            due(0, worn(way, 511).remove(5));
            due(581, worn(way, 511).get(580));
            due(1, worn(way, 511).has(580));
            due(10, worn(way, 511).next(1));
            due(580, worn(way, 511).previous(HIGHEST));
            due(59, worn(way, 511).count(LOWEST, HIGHEST));
            due(1, worn(way, 511).swap(0, 1, 5));
            due(1, worn(way, 511).stage(true, 5, 5));
            due(59, worn(way, 511).commit());
            worn(way, 511).tidy();
            changeAtThe511th(way);
            commitAtThe512th(way);
        }
    }

    private static void changeAtThe511th(int way) {
        Tree x = worn(way, 510);
        due(1, x.put(5, 6));
        due(6, x.get(5));
        x = worn(way, 510);
        due(1, x.remove(10));
        due(0, x.has(10));
        x = worn(way, 510);
        due(1, x.swap(20, 21, 4));
        due(4, x.get(20));
        x = worn(way, 510);
        x.tidy();
        due(59, x.count(0, 4095));
    }

    private static void commitAtThe512th(int way) {
        Tree x = worn(way, 505);
        for (int i = 1; i <= 6; i++) {
            due(i, x.stage(i % 2 == 0, 10 * i, i));
        }
        due(56, x.commit());
        x = worn(way, 509);
        due(1, x.stage(true, 5, 5));
        due(2, x.stage(true, 6, 6));
        due(-1, x.commit());
    }

    /** What filled(59) holds, with so many calls behind it, mostly of one way. */
    private static Tree worn(int way, int calls) {
        Tree x = new Tree(false);
        for (int i = 0; i < 59; i++) {
            due(1, x.put(10 * i, 10 * i + 1));
        }
        while (x.calls + 2 <= calls) {
            wear(x, way);
        }
        if (x.calls < calls) {
            due(1, x.has(0));
        }
        return x;
    }

    private static void wear(Tree x, int way) {
        if (way == 0) {
            due(0, x.put(0, 1));
            due(0, x.put(580, 581));
        } else if (way == 1) {
            due(1, x.remove(0));
            due(1, x.put(0, 1));
        } else if (way == 2) {
            due(1, x.stage(true, 0, 1));
            due(59, x.commit());
        } else if (way == 3) {
            due(-1, x.stage(false, -1, 0));
            due(-1, x.put(4096, 1));
        } else {
            x.tidy();
            due(1, x.swap(0, 1, 1));
        }
    }

    // Terms

    private static void keysAre0To4095() {
        sentence("Terms", "KEYS are 0 to 4095");
        for (int first = 0; first < 4096; first += 32) {
            Tree x = fresh();
            for (int key = first; key < first + 32; key++) {
                due(1, x.put(key, key - 7));
                due(key - 7, x.get(key));
                due(first, x.next(0));
                due(key, x.previous(4095));
                due(key - first + 1, x.count(0, 4095));
            }
        }
        for (int key : new int[] {0, 4095}) {
            Tree x = fresh();
            due(1, x.stage(true, key, 5));
            due(1, x.commit());
            due(5, x.get(key));
            due(1, x.has(key));
            due(1, x.swap(key, 5, 6));
            due(1, x.stage(false, key, 0));
            due(0, x.commit());
            due(0, x.has(key));
        }
        for (int key : OUTSIDE) {
            Tree x = fresh();
            due(-1, x.put(key, 1));
            due(-1, x.stage(true, key, 1));
            due(-1, x.stage(false, key, 1));
            due(0, x.commit());
            empty(x);
        }
    }

    private static void valuesAreAnyInts() {
        sentence("Terms", "VALUES any ints");
        Tree x = fresh();
        for (int value : VALUES) {
            due(1, x.put(0, value));
            due(value, x.get(0));
            due(1, x.has(0));
            due(1, x.swap(0, value, ~value));
            due(~value, x.get(0));
            due(1, x.swap(0, ~value, value));
            due(value, x.get(0));
            due(1, x.remove(0));
            due(1, x.stage(true, 0, value));
            due(1, x.commit());
            due(value, x.get(0));
            due(1, x.remove(0));
        }
    }

    private static void atMost60EntriesAreHeld() {
        sentence("Terms", "At most 60 ENTRIES are held");
        Tree x = fresh();
        for (int i = 1; i <= 60; i++) {
            due(1, x.put(4095 - 3 * i, i));
            due(i, x.count(0, 4095));
        }
        due(-1, x.put(7, 7));
        due(1, x.stage(true, 7, 7));
        due(-1, x.commit());
        due(60, x.count(0, 4095));
        due(0, x.has(7));
        for (int i = 1; i <= 60; i++) {
            due(i, x.get(4095 - 3 * i));
        }
    }

    private static void noKeyTwice() {
        sentence("Terms", "each a key with a value, no key twice");
        Tree x = fresh();
        due(1, x.put(9, 0));
        for (int i = 1; i <= 61; i++) {
            due(0, x.put(9, i));
            due(1, x.count(LOWEST, HIGHEST));
        }
        for (int i = 1; i <= 6; i++) {
            due(i, x.stage(true, 9, -i));
        }
        due(1, x.commit());
        due(1, x.count(LOWEST, HIGHEST));
        due(-6, x.get(9));
        due(1, x.remove(9));
        due(0, x.remove(9));
        empty(x);
    }

    private static void atTheStartNoEntry() {
        sentence("Terms", "at the start none is");
        empty(brandNew());
        due(-1, brandNew().next(0));
        due(-1, brandNew().previous(4095));
        due(0, brandNew().count(0, 4095));
        due(0, brandNew().commit());
        due(0, brandNew().remove(0));
        due(1, brandNew().put(0, 0));
        due(0, brandNew().swap(0, 0, 0));
    }

    private static void aBatchIsOfAtMost6() {
        sentence("Terms", "A BATCH is a row of at most 6 changes that are waiting");
        Tree x = filled(3);
        for (int i = 1; i <= 6; i++) {
            due(i, x.stage(true, 100 + i, i));
        }
        due(-1, x.stage(true, 107, 7));
        due(9, x.commit());
        for (int i = 1; i <= 6; i++) {
            due(i, x.get(100 + i));
        }
        due(0, x.has(107));
    }

    private static void theBatchIsEmptyAtTheStart() {
        sentence("Terms", "(empty at the start)");
        due(0, brandNew().commit());
        due(1, brandNew().stage(true, 0, 0));
        due(1, brandNew().stage(false, 0, 0));
        Tree x = brandNew();
        due(1, x.put(1, 1));
        due(1, x.put(0, 1));
        due(2, x.commit());
        due(1, x.get(0));
    }

    private static void nothingThatWaitsIsSeen() {
        sentence("Terms", "nothing that waits is seen by any other call");
        Tree x = filled(5);
        due(1, x.stage(true, 0, 100));
        due(2, x.stage(false, 10, 0));
        due(3, x.stage(true, 4095, 7));
        due(4, x.stage(true, 15, 8));
        due(5, x.stage(false, 40, 0));
        unchanged(x, 5);
        due(1, x.has(10));
        due(0, x.has(4095));
        due(0, x.get(15));
        due(10, x.next(1));
        due(20, x.next(11));
        due(-1, x.next(41));
        due(40, x.previous(4095));
        due(10, x.previous(19));
        due(1, x.count(10, 15));
        due(0, x.swap(0, 100, 1));
        due(0, x.swap(15, 8, 1));
        due(1, x.swap(10, 11, 12));
        due(0, x.remove(15));
        due(1, x.remove(10));
        due(1, x.put(4095, 1));
        due(0, x.put(40, 1));
        due(5, x.count(0, 4095));
        waitingDoesNotFill();
        waitingDoesNotMakeRoom();
    }

    private static void waitingDoesNotFill() {
        Tree x = filled(59);
        for (int i = 1; i <= 6; i++) {
            due(i, x.stage(true, 4000 + i, 1));
        }
        due(1, x.put(5, 6));
        due(60, x.count(0, 4095));
        due(-1, x.put(4001, 1));
    }

    private static void waitingDoesNotMakeRoom() {
        Tree x = filled(60);
        for (int i = 1; i <= 6; i++) {
            due(i, x.stage(false, 10 * i, 0));
        }
        due(-1, x.put(5, 6));
        due(0, x.put(10, 11));
        unchanged(x, 60);
    }

    private static void aChangePutsOrRemoves() {
        sentence("Terms", "A change PUTS a value at a key or REMOVES a key.");
        Tree x = filled(2);
        due(1, x.stage(true, 0, 5));
        due(2, x.stage(true, 1, 6));
        due(3, x.stage(false, 10, 7));
        due(4, x.stage(false, 11, 8));
        due(2, x.commit());
        due(5, x.get(0));
        due(6, x.get(1));
        due(0, x.has(10));
        due(0, x.has(11));
    }

    // Promise 1

    private static void noEntryNoBatch() {
        sentence(1, "No entry, no batch.");
        for (int first = 0; first < 4096; first += 128) {
            Tree x = brandNew();
            for (int key = first; key < first + 128; key++) {
                due(0, x.has(key));
            }
            x = brandNew();
            for (int key = first; key < first + 128; key++) {
                due(0, x.get(key));
            }
        }
        empty(brandNew());
        due(0, brandNew().commit());
        due(1, brandNew().stage(true, 4095, 1));
        Tree one = filled(60);
        due(1, one.stage(false, 0, 0));
        Tree other = brandNew();
        empty(other);
        due(0, other.commit());
        due(59, one.commit());
    }

    // Promise 2

    private static void putGivesTheKeyTheValue() {
        sentence(2, "The key has the value.");
        Tree x = filled(60);
        for (int key : new int[] {0, 300, 590}) {
            due(0, x.put(key, -5));
            due(-5, x.get(key));
            due(0, x.put(key, key + 1));
            due(key + 1, x.get(key));
        }
        unchanged(x, 60);
        Tree y = withBothEnds();
        due(7, y.get(0));
        due(8, y.get(4095));
    }

    private static void putTellsWhetherThereWasNone() {
        sentence(2, "Answers 1 if there was no entry with the key before, 0 if there was");
        Tree x = fresh();
        for (int key : new int[] {0, 1, 2047, 4094, 4095}) {
            due(1, x.put(key, 0));
            due(0, x.put(key, 0));
            due(0, x.put(key, 1));
            due(1, x.remove(key));
            due(1, x.put(key, 1));
            due(0, x.put(key, 1));
        }
        due(1, x.stage(false, 0, 0));
        due(2, x.stage(true, 3, 3));
        due(1, x.put(3, 4));
        due(5, x.commit());
        due(1, x.put(0, 1));
        due(0, x.put(3, 1));
    }

    private static void putOutOfRange() {
        sentence(2, "-1, and changes nothing, if key is out of range");
        for (int entries : new int[] {0, 1, 59, 60}) {
            Tree x = filled(entries);
            due(1, x.stage(true, 0, 1));
            for (int key : OUTSIDE) {
                due(-1, x.put(key, 99));
            }
            unchanged(x, entries);
            due(2, x.stage(true, 0, 2));
            due(entries == 0 ? 1 : entries, x.commit());
            due(2, x.get(0));
        }
        Tree x = withBothEnds();
        for (int key : OUTSIDE) {
            due(-1, x.put(key, 99));
        }
        due(7, x.get(0));
        due(8, x.get(4095));
        due(2, x.count(LOWEST, HIGHEST));
    }

    private static void putWith60Held() {
        sentence(2, "or there was none and 60 are held");
        Tree x = filled(60);
        due(1, x.stage(true, 590, 591));
        for (int key : new int[] {1, 9, 595, 4095}) {
            due(-1, x.put(key, 99));
            due(0, x.has(key));
        }
        unchanged(x, 60);
        due(2, x.stage(true, 590, 7));
        due(60, x.commit());
        due(7, x.get(590));
        due(0, x.put(0, 50));
        due(50, x.get(0));
        due(-1, x.put(1, 1));
        due(1, x.remove(0));
        due(1, x.put(1, 1));
        due(-1, x.put(0, 1));
        due(60, x.count(0, 4095));
        the60thPut();
    }

    private static void the60thPut() {
        Tree x = filled(59);
        due(0, x.put(0, 1));
        due(1, x.put(4095, 4));
        due(4, x.get(4095));
        due(-1, x.put(4094, 4));
        due(0, x.put(4095, 5));
        due(5, x.get(4095));
        due(60, x.count(0, 4095));
    }

    // Promise 3

    private static void removeRemovesTheEntry() {
        sentence(3, "Removes the entry with the key.");
        for (int gone : new int[] {0, 10, 300, 580, 590}) {
            Tree x = filled(60);
            due(1, x.remove(gone));
            due(0, x.has(gone));
            due(0, x.get(gone));
            due(59, x.count(LOWEST, HIGHEST));
            for (int i = 0; i < 60; i++) {
                due(10 * i == gone ? 0 : 10 * i + 1, x.get(10 * i));
            }
        }
        Tree x = withBothEnds();
        due(1, x.remove(4095));
        due(7, x.get(0));
        due(1, x.remove(0));
        empty(x);
    }

    private static void removeTellsWhetherThereWasOne() {
        sentence(3, "Answers 1, or 0 if there is none.");
        Tree x = fresh();
        due(0, x.remove(0));
        due(0, x.remove(4095));
        due(0, x.commit());
        x = filled(40);
        for (int i = 0; i < 40; i++) {
            due(0, x.remove(10 * i + 1));
            due(1, x.remove(10 * i));
            due(0, x.remove(10 * i));
        }
        empty(x);
        due(1, x.put(0, 0));
        due(1, x.remove(0));
        due(0, x.remove(0));
        x = filled(60);
        due(0, x.remove(5));
        due(0, x.remove(4095));
        unchanged(x, 60);
        due(-1, x.put(5, 5));
    }

    // Promise 4

    private static void getGivesTheValue() {
        sentence(4, "The value of the key");
        unchanged(filled(1), 1);
        Tree x = filled(60);
        unchanged(x, 60);
        for (int i = 0; i < 20; i++) {
            due(0, x.put(590, -i));
            due(-i, x.get(590));
            due(1, x.get(0));
        }
    }

    private static void getWithoutEntry() {
        sentence(4, "0 if there is no entry with it");
        due(0, fresh().get(0));
        due(0, fresh().get(4095));
        Tree x = filled(60);
        for (int i = 0; i < 60; i++) {
            due(0, x.get(10 * i + 1));
            due(0, x.get(10 * i + 9));
        }
        due(0, x.get(4095));
        due(1, x.remove(590));
        due(0, x.get(590));
        due(1, x.stage(false, 0, 9));
        due(58, x.commit());
        due(0, x.get(0));
        due(1, x.put(590, 3));
        due(3, x.get(590));
    }

    // Promise 5

    private static void hasTellsWhetherThereIsOne() {
        sentence(5, "1 if there is an entry with the key, else 0.");
        due(0, fresh().has(0));
        due(0, fresh().has(4095));
        Tree x = filled(60);
        for (int i = 0; i < 60; i++) {
            due(1, x.has(10 * i));
            due(0, x.has(10 * i + 1));
        }
        due(-1, x.put(5, 5));
        due(0, x.has(5));
        due(0, x.put(10, 0));
        due(1, x.has(10));
        due(1, x.remove(10));
        due(0, x.has(10));
        due(1, x.put(10, 0));
        due(1, x.has(10));
        x = withBothEnds();
        due(1, x.has(0));
        due(0, x.has(1));
        due(0, x.has(4094));
        due(1, x.has(4095));
    }

    // Promise 6

    private static void nextIsTheLeastFromOn() {
        sentence(6, "The least key with an entry that is at least from");
        Tree x = filled(60);
        for (int i = 0; i < 60; i++) {
            due(10 * i, x.next(10 * i));
            due(10 * i, x.next(10 * i - 9));
        }
        x = filled(60);
        due(0, x.next(-1));
        due(10, x.next(9));
        due(1, x.remove(0));
        due(10, x.next(0));
        due(1, x.remove(300));
        due(1, x.remove(310));
        due(320, x.next(300));
        due(1, x.put(311, 0));
        due(311, x.next(300));
        x = withBothEnds();
        due(0, x.next(0));
        due(4095, x.next(1));
        due(4095, x.next(4094));
        due(4095, x.next(4095));
    }

    private static void nextOfNone() {
        sentence(6, "-1 if there is none");
        for (int from : new int[] {LOWEST, -1, 0, 1, 4095, HIGHEST}) {
            due(-1, fresh().next(from));
        }
        Tree x = filled(60);
        due(-1, x.next(591));
        due(-1, x.next(4095));
        due(1, x.remove(590));
        due(-1, x.next(581));
        due(580, x.next(580));
        x = filled(1);
        due(-1, x.next(1));
        due(1, x.remove(0));
        due(-1, x.next(0));
    }

    // Promise 7

    private static void previousIsTheGreatestUpTo() {
        sentence(7, "The greatest key with an entry that is at most from");
        Tree x = filled(60);
        for (int i = 0; i < 60; i++) {
            due(10 * i, x.previous(10 * i));
            due(10 * i, x.previous(10 * i + 9));
        }
        x = filled(60);
        due(0, x.previous(1));
        due(10, x.previous(11));
        due(1, x.remove(590));
        due(580, x.previous(590));
        due(1, x.remove(300));
        due(1, x.remove(310));
        due(290, x.previous(310));
        due(1, x.put(299, 0));
        due(299, x.previous(310));
        x = withBothEnds();
        due(4095, x.previous(4095));
        due(0, x.previous(4094));
        due(0, x.previous(1));
        due(0, x.previous(0));
    }

    private static void previousOfNone() {
        sentence(7, "-1 if there is none");
        for (int from : new int[] {LOWEST, -1, 0, 1, 4095, HIGHEST}) {
            due(-1, fresh().previous(from));
        }
        Tree x = filled(60);
        due(1, x.remove(0));
        due(-1, x.previous(0));
        due(-1, x.previous(9));
        due(10, x.previous(10));
        x = fresh();
        due(1, x.put(4095, 0));
        due(-1, x.previous(4094));
        due(1, x.remove(4095));
        due(-1, x.previous(4095));
    }

    // Promise 8

    private static void countFromLowToHigh() {
        sentence(8, "How many entries have a key from low to high.");
        due(0, fresh().count(0, 4095));
        due(0, fresh().count(0, 0));
        Tree x = filled(60);
        due(60, x.count(0, 4095));
        due(60, x.count(0, 590));
        due(59, x.count(1, 590));
        due(59, x.count(0, 589));
        due(58, x.count(1, 589));
        due(1, x.count(0, 0));
        due(1, x.count(590, 590));
        due(0, x.count(1, 1));
        due(2, x.count(10, 20));
        due(0, x.count(11, 19));
        due(0, x.count(591, 4095));
        due(1, x.remove(10));
        due(59, x.count(0, 4095));
        due(1, x.count(10, 20));
        due(1, x.put(10, 0));
        due(0, x.put(10, 1));
        due(2, x.count(10, 20));
        x = withBothEnds();
        due(2, x.count(0, 4095));
        due(1, x.count(0, 4094));
        due(1, x.count(1, 4095));
        due(0, x.count(1, 4094));
        due(1, x.count(4095, 4095));
    }

    // Promise 9

    private static void swapOfTheExpectedValue() {
        sentence(9, "If the value of the key is expected (there being an entry), it becomes value: answers 1.");
        Tree x = filled(60);
        due(1, x.swap(0, 1, 1));
        due(1, x.get(0));
        due(1, x.swap(0, 1, LOWEST));
        due(LOWEST, x.get(0));
        due(1, x.swap(0, LOWEST, HIGHEST));
        due(HIGHEST, x.get(0));
        due(1, x.swap(0, HIGHEST, 0));
        due(0, x.get(0));
        due(1, x.has(0));
        due(1, x.swap(0, 0, 1));
        due(1, x.swap(590, 591, 5));
        due(1, x.swap(590, 5, 591));
        unchanged(x, 60);
        x = withBothEnds();
        due(1, x.swap(0, 7, 9));
        due(1, x.swap(4095, 8, 7));
        due(9, x.get(0));
        due(7, x.get(4095));
    }

    private static void swapWithoutEntry() {
        sentence(9, "(there being an entry)");
        Tree x = fresh();
        due(0, x.swap(0, 0, 5));
        due(0, x.swap(4095, 0, 5));
        due(0, x.swap(0, 0, 0));
        empty(x);
        x = filled(2);
        due(1, x.remove(10));
        due(0, x.swap(10, 0, 5));
        due(0, x.swap(10, 11, 5));
        due(0, x.has(10));
        due(1, x.count(0, 4095));
        x = filled(60);
        due(0, x.swap(5, 0, 5));
        due(0, x.swap(1, 1, 5));
        unchanged(x, 60);
    }

    private static void swapElse0() {
        sentence(9, "Else 0, and nothing is changed.");
        Tree x = filled(60);
        due(1, x.stage(true, 0, 3));
        for (int expected : new int[] {LOWEST, LOWEST + 1, -1, 0, 2, 3, 257, 65537, HIGHEST}) {
            due(0, x.swap(0, expected, 99));
        }
        due(0, x.swap(0, 11, 99));
        unchanged(x, 60);
        due(2, x.stage(true, 0, 4));
        due(60, x.commit());
        due(4, x.get(0));
        due(0, x.swap(0, 1, 5));
        due(0, x.swap(0, 3, 5));
        due(4, x.get(0));
        x = fresh();
        due(1, x.put(9, LOWEST));
        due(0, x.swap(9, HIGHEST, 1));
        due(0, x.swap(9, 0, 1));
        due(LOWEST, x.get(9));
    }

    // Promise 10

    private static void stageAddsToTheBatch() {
        sentence(10, "Adds to the batch: put the value at the key (on is true) or remove the key (on is false).");
        Tree x = withBothEnds();
        due(1, x.stage(true, 0, LOWEST));
        due(2, x.stage(false, 4095, 1));
        due(3, x.stage(true, 1, HIGHEST));
        due(4, x.stage(false, 4094, 1));
        due(5, x.stage(true, 2, 0));
        due(3, x.commit());
        due(LOWEST, x.get(0));
        due(0, x.has(4095));
        due(HIGHEST, x.get(1));
        due(0, x.has(4094));
        due(1, x.has(2));
        due(0, x.get(2));
    }

    private static void stageTellsHowManyWait() {
        sentence(10, "Answers the number of changes that wait then");
        Tree x = filled(60);
        for (int round = 0; round < 3; round++) {
            for (int i = 1; i <= 6; i++) {
                due(i, x.stage(i % 2 == round % 2, 10, 11));
            }
            due(round % 2 == 0 ? 60 : 59, x.commit());
        }
        x = fresh();
        for (int i = 1; i <= 6; i++) {
            due(i, x.stage(false, 5, 5));
        }
        due(0, x.commit());
        due(1, x.stage(true, 5, 5));
        due(1, x.commit());
        due(1, x.stage(true, 5, 5));
    }

    private static void stageOutOfRange() {
        sentence(10, "-1, and changes nothing, if key is out of range");
        for (int waiting = 0; waiting <= 6; waiting++) {
            Tree x = filled(60);
            for (int i = 0; i < waiting; i++) {
                due(i + 1, x.stage(false, 10 * i, 0));
            }
            for (int key : OUTSIDE) {
                due(-1, x.stage(true, key, 5));
                due(-1, x.stage(false, key, 5));
            }
            unchanged(x, 60);
            due(60 - waiting, x.commit());
            due(waiting * 10, x.next(0));
        }
        Tree x = withBothEnds();
        due(-1, x.stage(false, -1, 0));
        due(-1, x.stage(false, 4096, 0));
        due(1, x.stage(true, 1, 1));
        due(-1, x.stage(true, 4097, 2));
        due(2, x.stage(true, 2, 2));
        due(4, x.commit());
        due(1, x.get(1));
    }

    private static void stageWith6Waiting() {
        sentence(10, "or 6 wait");
        Tree x = filled(60);
        for (int i = 1; i <= 6; i++) {
            due(i, x.stage(true, 10 * i, -i));
        }
        for (int round = 0; round < 3; round++) {
            due(-1, x.stage(true, 10, 99));
            due(-1, x.stage(false, 60, 99));
            due(-1, x.stage(true, 300, 99));
            due(-1, x.stage(false, 0, 0));
        }
        unchanged(x, 60);
        due(60, x.commit());
        for (int i = 1; i <= 6; i++) {
            due(-i, x.get(10 * i));
        }
        due(1, x.get(0));
        due(301, x.get(300));
        due(1, x.stage(true, 10, 1));
    }

    // Promise 11

    private static void commitInTheirOrder() {
        sentence(11, "Carries the batch out, all its changes in their order");
        Tree x = filled(3);
        due(1, x.stage(true, 5, 1));
        due(2, x.stage(true, 5, 2));
        due(3, x.stage(false, 10, 0));
        due(4, x.stage(true, 20, 9));
        due(5, x.stage(false, 20, 0));
        due(6, x.stage(true, 10, 8));
        due(3, x.commit());
        due(1, x.get(0));
        due(2, x.get(5));
        due(8, x.get(10));
        due(0, x.has(20));
        due(3, x.count(0, 4095));
        x = filled(1);
        due(1, x.commit());
        unchanged(x, 1);
        for (int i = 1; i <= 6; i++) {
            due(i, x.stage(i % 2 == 1, 4095, i));
        }
        due(1, x.commit());
        due(0, x.has(4095));
    }

    private static void commitUpTo60() {
        sentence(11, "if at no time more than 60 entries are held by that");
        for (int entries = 54; entries <= 60; entries++) {
            for (int puts = 0; puts <= 6; puts++) {
                Tree x = filled(entries);
                for (int i = 1; i <= puts; i++) {
                    due(i, x.stage(true, 4000 + i, i));
                }
                boolean fits = entries + puts <= 60;
                due(fits ? entries + puts : -1, x.commit());
                due(fits ? puts : 0, x.count(4000, 4095));
                due(fits ? entries + puts : entries, x.count(0, 4095));
            }
        }
        roomMadeFirst();
        above60ForATime();
        noRoomMade();
    }

    private static void roomMadeFirst() {
        Tree x = filled(60);
        for (int i = 0; i < 6; i += 2) {
            due(i + 1, x.stage(false, 10 * i, 0));
            due(i + 2, x.stage(true, 10 * i + 5, i));
        }
        due(60, x.commit());
        due(0, x.has(40));
        due(4, x.get(45));
        due(1, x.stage(true, 590, 1));
        due(2, x.stage(true, 580, 2));
        due(60, x.commit());
        due(2, x.get(580));
    }

    private static void above60ForATime() {
        for (int before = 0; before <= 4; before++) {
            Tree x = filled(60);
            for (int i = 1; i <= before; i++) {
                due(i, x.stage(true, 10 * i, 0));
            }
            due(before + 1, x.stage(true, 5, 5));
            due(before + 2, x.stage(false, 5, 0));
            due(-1, x.commit());
            unchanged(x, 60);
        }
        Tree x = filled(60);
        due(1, x.stage(true, 5, 5));
        due(2, x.stage(false, 0, 0));
        due(-1, x.commit());
        unchanged(x, 60);
    }

    private static void noRoomMade() {
        Tree x = filled(60);
        due(1, x.stage(false, 4095, 0));
        due(2, x.stage(true, 5, 5));
        due(-1, x.commit());
        due(1, x.stage(false, 0, 0));
        due(2, x.stage(false, 0, 0));
        due(3, x.stage(true, 5, 5));
        due(4, x.stage(true, 6, 6));
        due(-1, x.commit());
        unchanged(x, 60);
    }

    private static void commitTellsHowManyAreHeld() {
        sentence(11, "answers how many entries are held then");
        due(0, fresh().commit());
        for (int entries = 1; entries <= 60; entries++) {
            Tree x = filled(entries);
            due(entries, x.commit());
            due(1, x.stage(true, 0, 5));
            due(entries, x.commit());
            due(1, x.stage(false, 5, 5));
            due(entries, x.commit());
            due(1, x.stage(false, 0, 0));
            due(entries - 1, x.commit());
            due(1, x.stage(true, 7, 7));
            due(entries, x.commit());
            due(entries, x.count(LOWEST, HIGHEST));
        }
    }

    private static void commitRefused() {
        sentence(11, "Else nothing but the batch is changed, and the answer is -1.");
        for (int last = 1; last <= 6; last++) {
            Tree x = filled(60);
            for (int i = 1; i < last; i++) {
                due(i, x.stage(true, 10 * i, -i));
            }
            due(last, x.stage(true, 4095, 1));
            due(-1, x.commit());
            unchanged(x, 60);
            due(-1, x.put(4095, 1));
            due(60, x.commit());
        }
        Tree x = filled(60);
        due(1, x.stage(false, 0, 0));
        due(2, x.stage(false, 590, 0));
        due(3, x.stage(true, 5, 5));
        due(4, x.stage(true, 20, -20));
        due(5, x.stage(true, 6, 6));
        due(6, x.stage(true, 7, 7));
        due(-1, x.commit());
        unchanged(x, 60);
        due(0, x.next(LOWEST));
        due(590, x.previous(HIGHEST));
        due(1, x.remove(0));
        due(1, x.put(5, 5));
        due(-1, x.put(6, 6));
    }

    private static void theBatchIsEmptyThen() {
        sentence(11, "In both cases the batch is empty then.");
        Tree x = filled(59);
        for (int i = 1; i <= 6; i++) {
            due(i, x.stage(true, 10 * i, 3));
        }
        due(59, x.commit());
        due(0, x.put(10, 4));
        due(59, x.commit());
        due(4, x.get(10));
        due(1, x.stage(true, 4001, 1));
        due(2, x.stage(true, 4002, 1));
        due(-1, x.commit());
        due(1, x.remove(0));
        due(1, x.remove(10));
        due(57, x.commit());
        due(0, x.count(4000, 4095));
        for (int i = 1; i <= 6; i++) {
            due(i, x.stage(false, 10 * i, 0));
        }
        due(52, x.commit());
        due(1, x.stage(false, 0, 0));
    }

    // Promise 12

    private static void tidyChangesNoAnswer() {
        sentence(12, "Changes no answer of any other call.");
        Tree x = brandNew();
        x.tidy();
        x.tidy();
        empty(x);
        due(0, x.commit());
        x = filled(60);
        x.tidy();
        x.tidy();
        x.tidy();
        unchanged(x, 60);
        due(-1, x.put(5, 5));
        due(0, x.put(0, 2));
        x.tidy();
        due(2, x.get(0));
        due(1, x.swap(0, 2, 1));
        due(1, x.remove(590));
        x.tidy();
        due(0, x.has(590));
        due(580, x.previous(4095));
        due(59, x.count(0, 4095));
        tidyOfAnEmptiedMap();
        tidyWhileABatchWaits();
        tidyAfterARefusedCommit();
    }

    private static void tidyOfAnEmptiedMap() {
        Tree x = filled(20);
        for (int i = 0; i < 20; i++) {
            due(1, x.remove(10 * i));
            x.tidy();
            due(19 - i, x.count(0, 4095));
        }
        empty(x);
        due(1, x.put(0, 1));
        x.tidy();
        unchanged(x, 1);
    }

    private static void tidyWhileABatchWaits() {
        Tree x = filled(60);
        for (int i = 1; i <= 6; i++) {
            due(i, x.stage(false, 10 * i, 0));
            x.tidy();
        }
        due(-1, x.stage(false, 0, 0));
        unchanged(x, 60);
        x.tidy();
        due(54, x.commit());
        x.tidy();
        due(70, x.next(1));
        due(1, x.stage(true, 10, 11));
    }

    private static void tidyAfterARefusedCommit() {
        Tree x = filled(60);
        due(1, x.stage(false, 0, 0));
        due(2, x.stage(true, 5, 5));
        due(3, x.stage(true, 6, 6));
        x.tidy();
        due(-1, x.commit());
        x.tidy();
        unchanged(x, 60);
        due(60, x.commit());
    }

    // Promise 13

    private static void aKeyOutOfRangeHasNoEntry() {
        sentence(13, "remove, get, has and swap take a key that is out of range as one without an entry: 0.");
        keysOutOfRangeIn(fresh());
        keysOutOfRangeIn(withBothEnds());
        Tree x = filled(60);
        keysOutOfRangeIn(x);
        unchanged(x, 60);
        x = withBothEnds();
        due(1, x.stage(true, 1, 1));
        keysOutOfRangeIn(x);
        due(7, x.get(0));
        due(8, x.get(4095));
        due(3, x.commit());
    }

    private static void keysOutOfRangeIn(Tree x) {
        for (int key : OUTSIDE) {
            due(0, x.remove(key));
            due(0, x.get(key));
            due(0, x.has(key));
            due(0, x.swap(key, 0, 1));
            due(0, x.swap(key, 7, 1));
        }
    }

    private static void anyIntsAreTaken() {
        sentence(13, "next, previous and count take any ints");
        Tree x = filled(60);
        for (int from : OUTSIDE) {
            due(from < 0 ? 0 : -1, x.next(from));
            due(from < 0 ? -1 : 590, x.previous(from));
            due(0, x.count(from, from));
            due(from < 0 ? 60 : 0, x.count(from, HIGHEST));
            due(from < 0 ? 0 : 60, x.count(LOWEST, from));
            due(from < 0 ? 1 : 0, x.count(from, 0));
        }
        due(60, x.count(LOWEST, HIGHEST));
        x = withBothEnds();
        due(0, x.next(LOWEST));
        due(-1, x.next(4096));
        due(4095, x.previous(HIGHEST));
        due(-1, x.previous(-1));
        due(1, x.count(LOWEST, 0));
        due(1, x.count(4095, HIGHEST));
        due(2, x.count(-1, 4096));
        due(0, x.count(LOWEST, -1));
        due(0, x.count(4096, HIGHEST));
    }

    private static void countWithLowAboveHigh() {
        sentence(13, "count answers 0 if low is above high.");
        int[] lows = {HIGHEST, HIGHEST, 4095, 4096, 1, 10, 20, 590, 0, -1, 0};
        int[] highs = {LOWEST, 0, 0, 4095, 0, 9, 10, 0, -1, LOWEST, LOWEST};
        Tree x = filled(60);
        Tree y = withBothEnds();
        Tree z = fresh();
        for (int i = 0; i < lows.length; i++) {
            due(0, x.count(lows[i], highs[i]));
            due(0, y.count(lows[i], highs[i]));
            due(0, z.count(lows[i], highs[i]));
        }
    }

    private static void stageTestsAlike() {
        sentence(13, "stage tests that key is out of range or 6 wait alike for on true and false");
        for (boolean on : new boolean[] {true, false}) {
            Tree x = withBothEnds();
            for (int key : OUTSIDE) {
                due(-1, x.stage(on, key, 1));
            }
            due(1, x.stage(on, 0, 1));
            due(2, x.stage(on, 4095, 1));
            for (int i = 3; i <= 6; i++) {
                due(i, x.stage(on, 2000, 1));
            }
            due(-1, x.stage(on, 1, 1));
            due(-1, x.stage(!on, 1, 1));
            due(-1, x.stage(on, 4096, 1));
            due(-1, x.stage(!on, -1, 1));
            due(on ? 3 : 0, x.commit());
        }
    }

    private static void valueIsNotLookedAt() {
        sentence(13, "value is not looked at for on false.");
        for (int value : VALUES) {
            Tree x = filled(2);
            due(1, x.stage(false, 0, value));
            due(2, x.stage(false, 5, value));
            due(1, x.commit());
            due(0, x.has(0));
            due(0, x.get(0));
            due(0, x.has(5));
            due(11, x.get(10));
            due(-1, x.stage(false, 4096, value));
            due(0, x.swap(0, value, 1));
            due(1, x.put(0, 3));
            due(3, x.get(0));
        }
    }

    private static void theSectionsBeforeThePromises() {
        callsUpToThe512th();
        keysAre0To4095();
        valuesAreAnyInts();
        atMost60EntriesAreHeld();
        noKeyTwice();
        atTheStartNoEntry();
        aBatchIsOfAtMost6();
        theBatchIsEmptyAtTheStart();
        nothingThatWaitsIsSeen();
        aChangePutsOrRemoves();
    }

    private static void promises1To9() {
        noEntryNoBatch();
        putGivesTheKeyTheValue();
        putTellsWhetherThereWasNone();
        putOutOfRange();
        putWith60Held();
        removeRemovesTheEntry();
        removeTellsWhetherThereWasOne();
        getGivesTheValue();
        getWithoutEntry();
        hasTellsWhetherThereIsOne();
        nextIsTheLeastFromOn();
        nextOfNone();
        previousIsTheGreatestUpTo();
        previousOfNone();
        countFromLowToHigh();
        swapOfTheExpectedValue();
        swapWithoutEntry();
        swapElse0();
    }

    private static void promises10To13() {
        stageAddsToTheBatch();
        stageTellsHowManyWait();
        stageOutOfRange();
        stageWith6Waiting();
        commitInTheirOrder();
        commitUpTo60();
        commitTellsHowManyAreHeld();
        commitRefused();
        theBatchIsEmptyThen();
        tidyChangesNoAnswer();
        aKeyOutOfRangeHasNoEntry();
        anyIntsAreTaken();
        countWithLowAboveHigh();
        stageTestsAlike();
        valueIsNotLookedAt();
    }

    private static void everySentence() {
        sentences = 0;
        theSectionsBeforeThePromises();
        promises1To9();
        promises10To13();
    }

    public static void main(String[] args) {
        for (callsBehind = 0; callsBehind <= MOST_CALLS_BEHIND; callsBehind++) {
            tidyFirst = false;
            everySentence();
            tidyFirst = true;
            everySentence();
        }
        System.out.println(sentences - WRONG.size() + " of " + sentences + " sentences hold");
        if (!WRONG.isEmpty()) {
            System.exit(1);
        }
    }
}
