/**
 * A map whose pages are never written over: changes are hung on as notes, and
 * pages are made anew from time to time.
 *
 * A PLACE is a number for a cell of the page in use (0 to pageSize - 1) or for a
 * note (pageSize and up, oldest first).
 */
public final class DeltaTree {
    private static final int LAST_KEY = 4095;
    private static final int MOST_ENTRIES = 60;
    private static final int MOST_WAITING = 6;
    // Not below MOST_WAITING: a whole batch must fit behind one page.
    private static final int MOST_NOTES = 16;
    private static final int PAGE_CELLS = 2 * MOST_ENTRIES;
    private static final int NO_PLACE = -1;
    private static final int NO_KEY = -1;
    private static final int REFUSED = -1;

    // Two halves: the page in use lies in one, the next page is made in the other,
    // so that making a page never writes over the one that is read.
    private final int[] pageKeys = new int[PAGE_CELLS];
    private final int[] pageValues = new int[PAGE_CELLS];
    private int pageStart;
    private int pageSize;

    private final int[] noteKeys = new int[MOST_NOTES];
    private final int[] noteValues = new int[MOST_NOTES];
    private final boolean[] notePuts = new boolean[MOST_NOTES];
    private int noteCount;

    private final int[] batchKeys = new int[MOST_WAITING];
    private final int[] batchValues = new int[MOST_WAITING];
    private final boolean[] batchPuts = new boolean[MOST_WAITING];
    private int waiting;

    private int held;

    public DeltaTree() {
        pageStart = 0;
        pageSize = 0;
        noteCount = 0;
        waiting = 0;
        held = 0;
    }

    public int put(int key, int value) {
        if (isOutOfRange(key)) {
            return REFUSED;
        }
        if (held >= MOST_ENTRIES && placeOf(key) == NO_PLACE) {
            return REFUSED;
        }
        return write(key, value);
    }

    public int remove(int key) {
        return erase(key);
    }

    public int get(int key) {
        int place = placeOf(key);
        return place == NO_PLACE ? 0 : valueAt(place);
    }

    public int has(int key) {
        return placeOf(key) == NO_PLACE ? 0 : 1;
    }

    public int next(int from) {
        int least = NO_KEY;
        int places = pageSize + noteCount;
        for (int place = 0; place < places; place++) {
            int key = keyAt(place);
            boolean nearer = key >= from && (least == NO_KEY || key < least);
            if (nearer && placeOf(key) != NO_PLACE) {
                least = key;
            }
        }
        return least;
    }

    public int previous(int from) {
        int greatest = NO_KEY;
        int places = pageSize + noteCount;
        for (int place = 0; place < places; place++) {
            int key = keyAt(place);
            boolean nearer = key <= from && key > greatest;
            if (nearer && placeOf(key) != NO_PLACE) {
                greatest = key;
            }
        }
        return greatest;
    }

    public int count(int low, int high) {
        int found = 0;
        int places = pageSize + noteCount;
        for (int place = 0; place < places; place++) {
            int key = keyAt(place);
            // A key may stand at several places; only one of them is where it is seen.
            if (key >= low && key <= high && placeOf(key) == place) {
                found++;
            }
        }
        return found;
    }

    public int swap(int key, int expected, int value) {
        int place = placeOf(key);
        if (place == NO_PLACE || valueAt(place) != expected) {
            return 0;
        }
        write(key, value);
        return 1;
    }

    public int stage(boolean on, int key, int value) {
        if (isOutOfRange(key) || waiting >= MOST_WAITING) {
            return REFUSED;
        }
        batchPuts[waiting] = on;
        batchKeys[waiting] = key;
        batchValues[waiting] = value;
        waiting++;
        return waiting;
    }

    public int commit() {
        int changes = waiting;
        waiting = 0;
        // No page may be made in the midst of the batch: its notes could not be
        // taken off again.
        if (noteCount + changes > MOST_NOTES) {
            makePageAnew();
        }
        int notesBefore = noteCount;
        int heldBefore = held;
        for (int i = 0; i < changes; i++) {
            if (batchPuts[i]) {
                write(batchKeys[i], batchValues[i]);
            } else {
                erase(batchKeys[i]);
            }
            if (held > MOST_ENTRIES) {
                noteCount = notesBefore;
                held = heldBefore;
                return REFUSED;
            }
        }
        return held;
    }

    public void tidy() {
        makePageAnew();
    }

    private boolean isOutOfRange(int key) {
        return key < 0 || key > LAST_KEY;
    }

    // No test of the range: a key out of range is never let in, so it is found nowhere.
    private int placeOf(int key) {
        for (int note = noteCount - 1; note >= 0; note--) {
            if (noteKeys[note] == key) {
                return notePuts[note] ? pageSize + note : NO_PLACE;
            }
        }
        for (int cell = 0; cell < pageSize; cell++) {
            if (pageKeys[pageStart + cell] == key) {
                return cell;
            }
        }
        return NO_PLACE;
    }

    private int keyAt(int place) {
        return place < pageSize ? pageKeys[pageStart + place] : noteKeys[place - pageSize];
    }

    private int valueAt(int place) {
        return place < pageSize ? pageValues[pageStart + place] : noteValues[place - pageSize];
    }

    // The limit is the callers' to keep: commit must be able to go above it and back.
    private int write(int key, int value) {
        int added = placeOf(key) == NO_PLACE ? 1 : 0;
        hangNote(true, key, value);
        held += added;
        return added;
    }

    private int erase(int key) {
        if (placeOf(key) == NO_PLACE) {
            return 0;
        }
        hangNote(false, key, 0);
        held--;
        return 1;
    }

    private void hangNote(boolean puts, int key, int value) {
        if (noteCount >= MOST_NOTES) {
            makePageAnew();
        }
        notePuts[noteCount] = puts;
        noteKeys[noteCount] = key;
        noteValues[noteCount] = value;
        noteCount++;
    }

    private void makePageAnew() {
        int start = MOST_ENTRIES - pageStart;
        int size = 0;
        int places = pageSize + noteCount;
        for (int place = 0; place < places && size < MOST_ENTRIES; place++) {
            int key = keyAt(place);
            if (placeOf(key) == place) {
                pageKeys[start + size] = key;
                pageValues[start + size] = valueAt(place);
                size++;
            }
        }
        pageStart = start;
        pageSize = size;
        noteCount = 0;
    }
}
