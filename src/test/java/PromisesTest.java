/** One test or more for each promise of the document, by its number. */
public final class PromisesTest {
    private static final int BAD_ARG = -1;
    private static final int UNMAPPED = -2;
    private static final int READ_ONLY = -3;
    private static final int[] BAD_PAGES = {-1, -2, -16, 16, 17, 1 << 20, Integer.MIN_VALUE, Integer.MAX_VALUE};
    private static final int[] BAD_EIGHTHS = {-1, -2, -8, 8, 9, 15, 1 << 29, Integer.MIN_VALUE, Integer.MAX_VALUE};
    private static final int[] NOT_ZERO = {1, 2, -1, 256, Integer.MIN_VALUE, Integer.MAX_VALUE};

    private static int wrong = 0;

    private static void due(String call, int got, int want) {
        if (got != want) {
            wrong++;
            System.out.println(call + " answered " + got + ", due is " + want);
        }
    }

    /** All that can be seen of an object by calls that change nothing. */
    private static String seen(VipCache c) {
        StringBuilder s = new StringBuilder();
        for (int v = 0; v < 16; v++) {
            s.append(c.frameOf(v)).append('/').append(c.marks(v)).append(' ');
        }
        for (int f = 0; f < 8; f++) {
            s.append("| ").append(c.shown(f)).append(':');
            for (int w = 0; w < 8; w++) {
                s.append(' ').append(c.word(f, w));
            }
        }
        return s.append("| dirty ").append(c.dirtyPages()).append(" fault ").append(c.fault()).toString();
    }

    /** What can be seen, without what fault() answers: load, store and trade may change that when refused. */
    private static String seenButFault(VipCache c) {
        String all = seen(c);
        return all.substring(0, all.indexOf(" fault "));
    }

    private static void same(String what, String got, String want) {
        if (!got.equals(want)) {
            wrong++;
            System.out.println(what + ": seen is\n  " + got + "\n  due is\n  " + want);
        }
    }

    /** Page 0 dirty and page 1 used on frame 2, page 15 read-only on frame 7, all words distinct. */
    private static VipCache filled() {
        VipCache c = new VipCache();
        for (int f = 0; f < 8; f++) {
            for (int w = 0; w < 8; w++) {
                c.setWord(f, w, 100 + 8 * f + w);
            }
        }
        c.map(0, 2, 1);
        c.map(1, 2, 1);
        c.map(15, 7, 0);
        c.store(0, 3, 555);
        c.load(1, 0);
        return c;
    }

    private static void constants() {
        due("BAD_ARG", VipCache.BAD_ARG, BAD_ARG);
        due("UNMAPPED", VipCache.UNMAPPED, UNMAPPED);
        due("READ_ONLY", VipCache.READ_ONLY, READ_ONLY);
    }

    private static void promise1NewObject() {
        VipCache c = new VipCache();
        due("1 fault()", c.fault(), 0);
        due("1 dirtyPages()", c.dirtyPages(), 0);
        for (int v = 0; v < 16; v++) {
            due("1 frameOf(" + v + ")", c.frameOf(v), UNMAPPED);
            due("1 marks(" + v + ")", c.marks(v), 0);
        }
        for (int f = 0; f < 8; f++) {
            due("1 shown(" + f + ")", c.shown(f), 0);
            for (int w = 0; w < 8; w++) {
                due("1 word(" + f + ", " + w + ")", c.word(f, w), 0);
            }
        }
        VipCache other = filled();
        due("1 a second object", c.word(2, 3), 0);
        due("1 the first object", other.word(2, 3), 555);
    }

    private static void promise2Map() {
        VipCache c = new VipCache();
        for (int v = 0; v < 16; v++) {
            due("2 map(" + v + ") first", c.map(v, v % 8, 1), UNMAPPED);
            due("2 frameOf(" + v + ")", c.frameOf(v), v % 8);
        }
        for (int v = 0; v < 16; v++) {
            due("2 map(" + v + ") again", c.map(v, 7 - v % 8, 0), v % 8);
            due("2 store(" + v + ") read-only", c.store(v, 0, 1), READ_ONLY);
        }
        for (int on : NOT_ZERO) {
            c.map(4, 4, 0);
            due("2 map(4, 4, " + on + ")", c.map(4, 4, on), 4);
            due("2 store after map with " + on, c.store(4, 0, on), 0);
            due("2 marks before map", c.marks(4), 3);
        }
        c.map(4, 4, 1);
        due("2 marks after map to the same frame", c.marks(4), 0);
        c.store(4, 0, 9);
        c.map(4, 5, 1);
        due("2 marks after map to another frame", c.marks(4), 0);
        due("2 word of the frame left", c.word(4, 0), 9);
        due("2 fault() after map", c.fault(), 0);
    }

    private static void promise2MapRefused() {
        VipCache c = filled();
        String before = seen(c);
        for (int bad : BAD_PAGES) {
            due("2 map(" + bad + ", 0, 1)", c.map(bad, 0, 1), BAD_ARG);
        }
        for (int bad : BAD_EIGHTHS) {
            due("2 map(0, " + bad + ", 0)", c.map(0, bad, 0), BAD_ARG);
            due("2 map(5, " + bad + ", 1)", c.map(5, bad, 1), BAD_ARG);
        }
        due("2 map(16, 8, 1)", c.map(16, 8, 1), BAD_ARG);
        same("2 after refused map", seen(c), before);
        due("2 page 0 is still writable", c.store(0, 0, 1), 0);
    }

    private static void promise3Unmap() {
        VipCache c = filled();
        due("3 unmap(0)", c.unmap(0), 2);
        due("3 marks(0)", c.marks(0), 0);
        due("3 frameOf(0)", c.frameOf(0), UNMAPPED);
        due("3 dirtyPages()", c.dirtyPages(), 0);
        due("3 unmap(0) again", c.unmap(0), UNMAPPED);
        due("3 unmap(15)", c.unmap(15), 7);
        due("3 frameOf(1) stays", c.frameOf(1), 2);
        due("3 marks(1) stay", c.marks(1), 1);
        due("3 the word stays", c.load(1, 3), 555);
        c.map(0, 0, 1);
        due("3 unmap of frame 0", c.unmap(0), 0);
        String before = seen(c);
        for (int bad : BAD_PAGES) {
            due("3 unmap(" + bad + ")", c.unmap(bad), BAD_ARG);
        }
        same("3 after refused unmap", seen(c), before);
    }

    private static void promise4FrameOf() {
        VipCache c = filled();
        String before = seen(c);
        due("4 frameOf(0)", c.frameOf(0), 2);
        due("4 frameOf(2)", c.frameOf(2), UNMAPPED);
        due("4 frameOf(15)", c.frameOf(15), 7);
        for (int bad : BAD_PAGES) {
            due("4 frameOf(" + bad + ")", c.frameOf(bad), BAD_ARG);
        }
        same("4 after frameOf", seen(c), before);
    }

    private static void promise5Allow() {
        VipCache c = filled();
        String before = seen(c);
        due("5 allow(2, 1) unmapped", c.allow(2, 1), UNMAPPED);
        for (int bad : BAD_PAGES) {
            due("5 allow(" + bad + ", 1)", c.allow(bad, 1), BAD_ARG);
        }
        due("5 allow(0, 0)", c.allow(0, 0), 1);
        due("5 allow(0, 0) again", c.allow(0, 0), 0);
        same("5 after allow", seen(c), before);
        due("5 store to read-only", c.store(0, 0, 1), READ_ONLY);
        due("5 another page of the frame stays writable", c.store(1, 0, 1), 0);
        for (int on : NOT_ZERO) {
            due("5 allow(15, " + on + ")", c.allow(15, on), 0);
            due("5 store after allow with " + on, c.store(15, 0, on), 0);
            due("5 allow(15, 0)", c.allow(15, 0), 1);
            due("5 marks(15) stay", c.marks(15), 3);
        }
        c.unmap(2);
        c.allow(2, 1);
        c.map(2, 0, 0);
        due("5 allow while unmapped left nothing", c.allow(2, 0), 0);
    }

    private static void promise6Load() {
        VipCache c = filled();
        due("6 load(15, 7)", c.load(15, 7), 163);
        due("6 marks(15)", c.marks(15), 1);
        due("6 fault()", c.fault(), 0);
        due("6 load(0, 3)", c.load(0, 3), 555);
        due("6 marks(0) keep DIRTY", c.marks(0), 3);
        for (int w = 0; w < 8; w++) {
            due("6 load(1, " + w + ")", c.load(1, w), w == 3 ? 555 : 116 + w);
        }
        due("6 marks(1)", c.marks(1), 1);
        c.clearMarks(0);
        String before = seenButFault(c);
        due("6 load(2, 0)", c.load(2, 0), 0);
        due("6 fault() unmapped", c.fault(), UNMAPPED);
        for (int bad : BAD_PAGES) {
            c.load(2, 0);
            due("6 load(" + bad + ", 0)", c.load(bad, 0), 0);
            due("6 fault() for page " + bad, c.fault(), BAD_ARG);
        }
        for (int bad : BAD_EIGHTHS) {
            c.load(2, 0);
            due("6 load(2, " + bad + ") unmapped too", c.load(2, bad), 0);
            due("6 fault() for word " + bad + " unmapped too", c.fault(), BAD_ARG);
            due("6 load(0, " + bad + ")", c.load(0, bad), 0);
            due("6 fault() for word " + bad, c.fault(), BAD_ARG);
        }
        same("6 after refused load", seenButFault(c), before);
        c.load(0, 0);
        due("6 fault() after a good load", c.fault(), 0);
        c.setWord(2, 0, UNMAPPED);
        due("6 load of a word like a code", c.load(0, 0), UNMAPPED);
        due("6 fault() for that", c.fault(), 0);
    }

    private static void promise7Store() {
        VipCache c = filled();
        int[] values = {0, 1, -1, -2, -3, Integer.MIN_VALUE, Integer.MAX_VALUE};
        for (int x : values) {
            c.clearMarks(1);
            due("7 store(1, 7, " + x + ")", c.store(1, 7, x), 0);
            due("7 fault()", c.fault(), 0);
            due("7 word(2, 7)", c.word(2, 7), x);
            due("7 load through the other page", c.load(0, 7), x);
            due("7 marks(1)", c.marks(1), 3);
        }
        c.clearMarks(0);
        c.store(1, 6, 5);
        due("7 marks of the other page", c.marks(0), 0);
        c.store(1, 6, 5);
        c.clearMarks(1);
        c.store(1, 6, 5);
        due("7 marks when the word stays the same", c.marks(1), 3);
        due("7 neighbour word", c.word(2, 5), 121);
        due("7 neighbour frame", c.word(3, 6), 130);
    }

    private static void promise7StoreRefused() {
        VipCache c = filled();
        String before = seenButFault(c);
        due("7 store(2, 0, 1)", c.store(2, 0, 1), UNMAPPED);
        due("7 fault() unmapped", c.fault(), UNMAPPED);
        due("7 store(15, 0, 1)", c.store(15, 0, 1), READ_ONLY);
        due("7 fault() read-only", c.fault(), READ_ONLY);
        due("7 store(15, 0, same)", c.store(15, 0, 156), READ_ONLY);
        for (int bad : BAD_PAGES) {
            c.store(2, 0, 1);
            due("7 store(" + bad + ", 0, 1)", c.store(bad, 0, 1), BAD_ARG);
            due("7 fault() for page " + bad, c.fault(), BAD_ARG);
        }
        for (int bad : BAD_EIGHTHS) {
            due("7 store(0, " + bad + ", 1)", c.store(0, bad, 1), BAD_ARG);
            due("7 store(2, " + bad + ", 1)", c.store(2, bad, 1), BAD_ARG);
            due("7 store(15, " + bad + ", 1)", c.store(15, bad, 1), BAD_ARG);
            due("7 fault() for word " + bad, c.fault(), BAD_ARG);
        }
        same("7 after refused store", seenButFault(c), before);
        c.map(3, 1, 1);
        c.unmap(3);
        due("7 store to a page unmapped while writable", c.store(3, 0, 1), UNMAPPED);
        c.map(3, 1, 0);
        c.unmap(3);
        due("7 store to a page unmapped while read-only", c.store(3, 0, 1), UNMAPPED);
    }

    private static void promise8Trade() {
        VipCache c = filled();
        due("8 trade(1, 3, -9)", c.trade(1, 3, -9), 555);
        due("8 fault()", c.fault(), 0);
        due("8 marks(1)", c.marks(1), 3);
        due("8 word(2, 3)", c.word(2, 3), -9);
        due("8 trade(0, 3, 4)", c.trade(0, 3, 4), -9);
        due("8 load(1, 3)", c.load(1, 3), 4);
        String before = seenButFault(c);
        due("8 trade(2, 0, 1)", c.trade(2, 0, 1), 0);
        due("8 fault() unmapped", c.fault(), UNMAPPED);
        due("8 trade(15, 0, 1)", c.trade(15, 0, 1), 0);
        due("8 fault() read-only", c.fault(), READ_ONLY);
        for (int bad : BAD_PAGES) {
            c.trade(2, 0, 1);
            due("8 trade(" + bad + ", 0, 1)", c.trade(bad, 0, 1), 0);
            due("8 fault() for page " + bad, c.fault(), BAD_ARG);
        }
        for (int bad : BAD_EIGHTHS) {
            c.trade(15, 0, 1);
            due("8 trade(15, " + bad + ", 1)", c.trade(15, bad, 1), 0);
            due("8 fault() for word " + bad, c.fault(), BAD_ARG);
            due("8 trade(0, " + bad + ", 1)", c.trade(0, bad, 1), 0);
        }
        same("8 after refused trade", seenButFault(c), before);
        c.clearMarks(0);
        due("8 trade of the same word", c.trade(0, 3, 4), 4);
        due("8 marks when the word stays the same", c.marks(0), 3);
        due("8 fault() afterwards", c.fault(), 0);
    }

    /** Calls other than load, store and trade, good and refused, leave what fault() answers. */
    private static void callOthers(VipCache c) {
        c.map(4, 4, 1);
        c.map(16, 0, 1);
        c.allow(4, 0);
        c.allow(5, 1);
        c.unmap(4);
        c.unmap(4);
        c.frameOf(-1);
        c.word(8, 8);
        c.setWord(1, 1, 1);
        c.setWord(1, 8, 1);
        c.copyFrame(1, 2);
        c.copyFrame(1, 8);
        c.marks(16);
        c.clearMarks(16);
        c.shown(8);
        c.dirtyPages();
        c.flush();
        c.forget(0);
        c.forget(16);
        c.warm(0);
        c.warm(8);
    }

    private static void promise9Fault() {
        VipCache c = filled();
        int[] pages = {0, 2, 15, 16};
        int[] codes = {0, UNMAPPED, READ_ONLY, BAD_ARG};
        for (int i = 0; i < 4; i++) {
            c.store(pages[i], 0, 1);
            callOthers(c);
            due("9 fault() after store(" + pages[i] + ")", c.fault(), codes[i]);
            due("9 fault() again", c.fault(), codes[i]);
            c.load(0, 0);
            c.trade(pages[i], 0, 1);
            callOthers(c);
            due("9 fault() after trade(" + pages[i] + ")", c.fault(), codes[i]);
        }
        c.load(15, 0);
        due("9 fault() after load of a read-only page", c.fault(), 0);
        VipCache fresh = new VipCache();
        callOthers(fresh);
        due("9 fault() with no load, store or trade", fresh.fault(), 0);
    }

    private static void promise10Word() {
        VipCache c = filled();
        String before = seen(c);
        for (int f = 0; f < 8; f++) {
            for (int w = 0; w < 8; w++) {
                int want = f == 2 && w == 3 ? 555 : 100 + 8 * f + w;
                due("10 word(" + f + ", " + w + ")", c.word(f, w), want);
            }
        }
        for (int bad : BAD_EIGHTHS) {
            due("10 word(" + bad + ", 0)", c.word(bad, 0), 0);
            due("10 word(1, " + bad + ")", c.word(1, bad), 0);
            due("10 word(" + bad + ", " + bad + ")", c.word(bad, bad), 0);
        }
        same("10 after word", seen(c), before);
    }

    private static void promise11SetWord() {
        VipCache c = filled();
        due("11 setWord(2, 0, -5)", c.setWord(2, 0, -5), 0);
        due("11 setWord(7, 7, 6)", c.setWord(7, 7, 6), 0);
        due("11 word(2, 0)", c.word(2, 0), -5);
        due("11 marks(0)", c.marks(0), 3);
        due("11 marks(1)", c.marks(1), 1);
        due("11 marks(15) of a read-only page", c.marks(15), 0);
        due("11 load(0, 0)", c.load(0, 0), -5);
        due("11 load(1, 0)", c.load(1, 0), -5);
        due("11 load(15, 7)", c.load(15, 7), 6);
        due("11 dirtyPages()", c.dirtyPages(), 1);
        String before = seen(c);
        for (int bad : BAD_EIGHTHS) {
            due("11 setWord(" + bad + ", 0, 1)", c.setWord(bad, 0, 1), BAD_ARG);
            due("11 setWord(1, " + bad + ", 1)", c.setWord(1, bad, 1), BAD_ARG);
        }
        same("11 after refused setWord", seen(c), before);
    }

    private static void promise12CopyFrame() {
        VipCache c = filled();
        due("12 copyFrame(7, 2)", c.copyFrame(7, 2), 8);
        for (int w = 0; w < 8; w++) {
            int want = w == 3 ? 555 : 116 + w;
            due("12 word(7, " + w + ")", c.word(7, w), want);
            due("12 word(2, " + w + ")", c.word(2, w), want);
        }
        due("12 marks(15)", c.marks(15), 0);
        due("12 marks(1)", c.marks(1), 1);
        due("12 load(15, 3)", c.load(15, 3), 555);
        due("12 copyFrame(7, 2) again", c.copyFrame(7, 2), 0);
        c.store(0, 0, 1);
        c.store(0, 7, 1);
        due("12 the copy is not tied to its source", c.word(7, 0), 116);
        due("12 copyFrame after two stores", c.copyFrame(7, 2), 2);
        due("12 copyFrame(2, 2)", c.copyFrame(2, 2), 0);
        due("12 dirtyPages()", c.dirtyPages(), 1);
        String before = seen(c);
        for (int bad : BAD_EIGHTHS) {
            due("12 copyFrame(" + bad + ", 0)", c.copyFrame(bad, 0), BAD_ARG);
            due("12 copyFrame(0, " + bad + ")", c.copyFrame(0, bad), BAD_ARG);
            due("12 copyFrame(" + bad + ", " + bad + ")", c.copyFrame(bad, bad), BAD_ARG);
        }
        same("12 after refused copyFrame", seen(c), before);
    }

    private static void promise13Marks() {
        VipCache c = filled();
        String before = seen(c);
        due("13 marks(0)", c.marks(0), 3);
        due("13 marks(1)", c.marks(1), 1);
        due("13 marks(15)", c.marks(15), 0);
        due("13 marks(2) unmapped", c.marks(2), 0);
        for (int bad : BAD_PAGES) {
            due("13 marks(" + bad + ")", c.marks(bad), BAD_ARG);
        }
        same("13 after marks", seen(c), before);
    }

    private static void promise14ClearMarks() {
        VipCache c = filled();
        due("14 clearMarks(0)", c.clearMarks(0), 3);
        due("14 marks(0)", c.marks(0), 0);
        due("14 clearMarks(0) again", c.clearMarks(0), 0);
        due("14 marks(1) stay", c.marks(1), 1);
        due("14 clearMarks(1)", c.clearMarks(1), 1);
        due("14 clearMarks(2) unmapped", c.clearMarks(2), 0);
        c.load(15, 0);
        due("14 clearMarks(15) of a read-only page", c.clearMarks(15), 1);
        due("14 marks(15)", c.marks(15), 0);
        due("14 dirtyPages()", c.dirtyPages(), 0);
        due("14 frameOf(0)", c.frameOf(0), 2);
        due("14 the word stays", c.word(2, 3), 555);
        due("14 page 0 stays writable", c.store(0, 0, 1), 0);
        due("14 marks(0) set anew", c.marks(0), 3);
        String before = seen(c);
        for (int bad : BAD_PAGES) {
            due("14 clearMarks(" + bad + ")", c.clearMarks(bad), BAD_ARG);
        }
        same("14 after refused clearMarks", seen(c), before);
    }

    private static void promise15Shown() {
        VipCache c = new VipCache();
        for (int v = 0; v < 16; v++) {
            c.map(v, 6, v % 2);
            due("15 shown(6)", c.shown(6), v + 1);
        }
        c.map(3, 6, 1);
        due("15 shown(6) after the same map", c.shown(6), 16);
        c.map(0, 0, 1);
        c.unmap(15);
        due("15 shown(6) after map and unmap", c.shown(6), 14);
        due("15 shown(0)", c.shown(0), 1);
        due("15 shown(7)", c.shown(7), 0);
        String before = seen(c);
        for (int bad : BAD_EIGHTHS) {
            due("15 shown(" + bad + ")", c.shown(bad), BAD_ARG);
        }
        same("15 after shown", seen(c), before);
    }

    private static void promise16DirtyPages() {
        VipCache c = new VipCache();
        for (int v = 0; v < 16; v++) {
            c.map(v, 1, 1);
            c.load(v, 0);
            due("16 dirtyPages() after load", c.dirtyPages(), v);
            c.store(v, 0, v);
            c.store(v, 1, v);
            due("16 dirtyPages() after store", c.dirtyPages(), v + 1);
        }
        c.clearMarks(0);
        c.unmap(15);
        c.map(7, 1, 1);
        c.allow(8, 0);
        due("16 dirtyPages() after clearMarks, unmap and map", c.dirtyPages(), 13);
    }

    private static void promises17To19Housekeeping() {
        VipCache c = filled();
        c.store(15, 0, 1);
        String before = seen(c);
        c.flush();
        c.flush();
        for (int v = 0; v < 16; v++) {
            due("18 forget(" + v + ")", c.forget(v), 0);
        }
        for (int f = 0; f < 8; f++) {
            due("19 warm(" + f + ")", c.warm(f), 0);
        }
        for (int bad : BAD_PAGES) {
            due("18 forget(" + bad + ")", c.forget(bad), BAD_ARG);
        }
        for (int bad : BAD_EIGHTHS) {
            due("19 warm(" + bad + ")", c.warm(bad), BAD_ARG);
        }
        c.flush();
        same("17 to 19 after housekeeping", seen(c), before);
        due("17 to 19 page 0 is still writable", c.allow(0, 1), 1);
        due("17 to 19 page 15 is still read-only", c.allow(15, 0), 0);
        due("17 to 19 load", c.load(1, 3), 555);
    }

    public static void main(String[] args) {
        constants();
        promise1NewObject();
        promise2Map();
        promise2MapRefused();
        promise3Unmap();
        promise4FrameOf();
        promise5Allow();
        promise6Load();
        promise7Store();
        promise7StoreRefused();
        promise8Trade();
        promise9Fault();
        promise10Word();
        promise11SetWord();
        promise12CopyFrame();
        promise13Marks();
        promise14ClearMarks();
        promise15Shown();
        promise16DirtyPages();
        promises17To19Housekeeping();
        if (wrong != 0) {
            System.out.println(wrong + " answers are not as due");
            System.exit(1);
        }
    }
}
