/**
 * A memory of frames seen through pages.
 *
 * The words are kept once, in the frames, and a page holds only the number of the frame it shows:
 * so pages that show the same frame can't disagree, and flush, forget and warm have nothing to do.
 */
public final class VipCache {
    public static final int BAD_ARG = -1;
    public static final int UNMAPPED = -2;
    public static final int READ_ONLY = -3;

    private static final int PAGES = 16;
    private static final int FRAMES = 8;
    private static final int WORDS = 8;
    private static final int ALL_WORDS = FRAMES * WORDS;

    private static final int USED = 1;
    private static final int DIRTY = 2;

    private final int[] words = new int[ALL_WORDS];
    private final int[] pageFrame = new int[PAGES];
    private final boolean[] pageWritable = new boolean[PAGES];
    private final int[] pageMarks = new int[PAGES];
    private int lastFault = 0;

    public VipCache() {
        for (int v = 0; v < PAGES; v++) {
            pageFrame[v] = UNMAPPED;
        }
    }

    public int map(int v, int f, int on) {
        if (!isPage(v) || !isFrame(f)) {
            return BAD_ARG;
        }
        int before = pageFrame[v];
        setPage(v, f, on != 0);
        return before;
    }

    public int unmap(int v) {
        if (!isPage(v)) {
            return BAD_ARG;
        }
        int before = pageFrame[v];
        setPage(v, UNMAPPED, false);
        return before;
    }

    public int frameOf(int v) {
        return isPage(v) ? pageFrame[v] : BAD_ARG;
    }

    public int allow(int v, int on) {
        if (!isPage(v)) {
            return BAD_ARG;
        }
        if (!isFrame(pageFrame[v])) {
            return UNMAPPED;
        }
        int before = pageWritable[v] ? 1 : 0;
        pageWritable[v] = on != 0;
        return before;
    }

    public int load(int v, int w) {
        lastFault = loadRefusal(v, w);
        if (lastFault != 0) {
            return 0;
        }
        pageMarks[v] |= USED;
        return words[place(pageFrame[v], w)];
    }

    public int store(int v, int w, int x) {
        lastFault = storeRefusal(v, w);
        if (lastFault == 0) {
            exchange(v, w, x);
        }
        return lastFault;
    }

    public int trade(int v, int w, int x) {
        lastFault = storeRefusal(v, w);
        return lastFault == 0 ? exchange(v, w, x) : 0;
    }

    public int fault() {
        return lastFault;
    }

    public int word(int f, int w) {
        return isFrame(f) && isWord(w) ? words[place(f, w)] : 0;
    }

    public int setWord(int f, int w, int x) {
        if (!isFrame(f) || !isWord(w)) {
            return BAD_ARG;
        }
        words[place(f, w)] = x;
        return 0;
    }

    public int copyFrame(int f, int g) {
        if (!isFrame(f) || !isFrame(g)) {
            return BAD_ARG;
        }
        int changed = 0;
        for (int w = 0; w < WORDS; w++) {
            int to = place(f, w);
            int from = place(g, w);
            if (words[to] != words[from]) {
                words[to] = words[from];
                changed++;
            }
        }
        return changed;
    }

    public int marks(int v) {
        return isPage(v) ? pageMarks[v] : BAD_ARG;
    }

    public int clearMarks(int v) {
        if (!isPage(v)) {
            return BAD_ARG;
        }
        int before = pageMarks[v];
        pageMarks[v] = 0;
        return before;
    }

    public int shown(int f) {
        if (!isFrame(f)) {
            return BAD_ARG;
        }
        int count = 0;
        for (int v = 0; v < PAGES; v++) {
            if (pageFrame[v] == f) {
                count++;
            }
        }
        return count;
    }

    public int dirtyPages() {
        int count = 0;
        for (int v = 0; v < PAGES; v++) {
            if ((pageMarks[v] & DIRTY) != 0) {
                count++;
            }
        }
        return count;
    }

    public void flush() {
        // Nothing is held back from the frames, so there is nothing to bring there.
    }

    public int forget(int v) {
        return isPage(v) ? 0 : BAD_ARG;
    }

    public int warm(int f) {
        return isFrame(f) ? 0 : BAD_ARG;
    }

    private static boolean isPage(int v) {
        return v >= 0 && v < PAGES;
    }

    private static boolean isFrame(int f) {
        return f >= 0 && f < FRAMES;
    }

    private static boolean isWord(int w) {
        return w >= 0 && w < WORDS;
    }

    private static int place(int f, int w) {
        return f * WORDS + w;
    }

    private void setPage(int v, int f, boolean writable) {
        pageFrame[v] = f;
        pageWritable[v] = writable;
        pageMarks[v] = 0;
    }

    private int loadRefusal(int v, int w) {
        if (!isPage(v) || !isWord(w)) {
            return BAD_ARG;
        }
        return isFrame(pageFrame[v]) ? 0 : UNMAPPED;
    }

    private int storeRefusal(int v, int w) {
        int refusal = loadRefusal(v, w);
        if (refusal != 0) {
            return refusal;
        }
        return pageWritable[v] ? 0 : READ_ONLY;
    }

    private int exchange(int v, int w, int x) {
        int at = place(pageFrame[v], w);
        int before = words[at];
        words[at] = x;
        pageMarks[v] |= USED | DIRTY;
        return before;
    }
}
