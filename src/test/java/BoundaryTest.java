import java.util.function.Consumer;
import java.util.function.ToIntFunction;

/**
 * For each sentence of the document that names a boundary case a test of its own, run under that sentence:
 * a wrong answer is printed with the words that it breaks.
 */
public final class BoundaryTest {
    private static final int BAD_ARG = -1;
    private static final int UNMAPPED = -2;
    private static final int READ_ONLY = -3;

    private static final int PAGES = 16;
    private static final int FRAMES = 8;
    private static final int WORDS = 8;
    private static final int LAST_PROMISED_CALL = 512;

    // Beside the nearest numbers outside: ones that a mask, a cut to fewer bits, a sign or an index
    // that wraps around would bring back into the range.
    private static final int[] BAD_PAGES = {-1, -2, -15, -16, 16, 17, 31, 32, 128, 255, 256, 259, -256, 65536, 65539,
        1 << 28, 1 << 29, 1 << 30, Integer.MIN_VALUE, Integer.MIN_VALUE + 3, Integer.MAX_VALUE};
    private static final int[] BAD_EIGHTHS = {-1, -2, -7, -8, 8, 9, 15, 16, 63, 64, 128, 255, 256, 259, -256, 65536, 65539,
        1 << 28, 1 << 29, (1 << 29) + 3, 1 << 30, Integer.MIN_VALUE, Integer.MIN_VALUE + 3, Integer.MAX_VALUE};
    private static final int[] NOT_ZERO = {1, 2, 3, -1, -2, 16, 256, 65536, 1 << 30, Integer.MIN_VALUE, Integer.MAX_VALUE};
    // Words that look like codes, or that a smaller type than int would lose.
    private static final int[] ODD_WORDS = {0, 1, -1, -2, -3, 128, -129, 32768, -32769, 1 << 31, (1 << 31) - 1};

    // The pages of prepared().
    private static final int DIRTY_PAGE = 0;
    private static final int USED_PAGE = 1;
    private static final int FREED_PAGE = 2;
    private static final int NEVER_MAPPED = 9;
    private static final int LOCKED_PAGE = 14;
    private static final int CLEAN_LOCKED_PAGE = 15;
    private static final int[] UNMAPPED_PAGES = {FREED_PAGE, NEVER_MAPPED};
    private static final int[] READ_ONLY_PAGES = {LOCKED_PAGE, CLEAN_LOCKED_PAGE};

    private static final String ARGUMENTS = "In all calls the arguments are tested first: a page not 0 to 15, "
        + "a frame or a word number not 0 to 7 answers BAD_ARG.";
    private static final String REFUSED = "A refused call answers the code named and changes nothing, "
        + "except that load, store and trade set what fault() answers.";

    private static String sentence = "";
    private static int wrong = 0;

    private static void test(String where, String words, Runnable body) {
        sentence = where + ", \"" + words + "\"";
        try {
            body.run();
        } catch (RuntimeException | StackOverflowError thrown) {
            tell("a call threw " + thrown);
        }
    }

    private static void tell(String what) {
        wrong++;
        System.out.println(sentence + "\n  " + what);
    }

    private static void due(String call, int got, int want) {
        if (got != want) {
            tell(call + " answered " + got + ", due is " + want);
        }
    }

    private static void same(String after, String got, String want) {
        if (!got.equals(want)) {
            tell("after " + after + " can be seen\n    " + got + "\n  due is\n    " + want);
        }
    }

    private static int wordAt(int f, int w) {
        return 1000 + 10 * f + w;
    }

    /**
     * All words differ and all kinds of page are there: dirty, used, unmapped after being dirty, never mapped,
     * read-only with marks and without. What fault() answers is given.
     */
    private static VipCache prepared(int fault) {
        VipCache c = new VipCache();
        for (int f = 0; f < FRAMES; f++) {
            for (int w = 0; w < WORDS; w++) {
                c.setWord(f, w, wordAt(f, w));
            }
        }
        c.map(DIRTY_PAGE, 3, 1);
        c.store(DIRTY_PAGE, 0, wordAt(3, 0));
        c.map(USED_PAGE, 3, 1);
        c.load(USED_PAGE, 0);
        c.map(FREED_PAGE, 0, 1);
        c.store(FREED_PAGE, 0, wordAt(0, 0));
        c.unmap(FREED_PAGE);
        c.map(LOCKED_PAGE, 7, 1);
        c.store(LOCKED_PAGE, 7, wordAt(7, 7));
        c.allow(LOCKED_PAGE, 0);
        c.map(CLEAN_LOCKED_PAGE, 0, 0);
        setFault(c, fault);
        return c;
    }

    private static void setFault(VipCache c, int fault) {
        int page = fault == BAD_ARG ? PAGES : fault == UNMAPPED ? NEVER_MAPPED : fault == READ_ONLY ? LOCKED_PAGE : DIRTY_PAGE;
        c.store(page, 0, wordAt(3, 0));
    }

    /** All that can be seen, fault() last; whether a page is writable is asked with allow and put back. */
    private static String seen(VipCache c) {
        String fault = " fault " + c.fault();
        StringBuilder s = new StringBuilder("dirty " + c.dirtyPages() + " pages");
        for (int v = 0; v < PAGES; v++) {
            int writable = c.allow(v, 1);
            c.allow(v, writable);
            s.append(' ').append(c.frameOf(v)).append('/').append(writable).append('/').append(c.marks(v));
        }
        for (int f = 0; f < FRAMES; f++) {
            s.append(" | ").append(c.shown(f)).append(':');
            for (int w = 0; w < WORDS; w++) {
                s.append(' ').append(c.word(f, w));
            }
        }
        return s + fault;
    }

    private static final int[] FAULTS = {0, BAD_ARG, UNMAPPED, READ_ONLY};

    /** The call gives the answer and changes nothing, nor what fault() answers. */
    private static void changesNothing(String call, ToIntFunction<VipCache> made, int answer) {
        for (int fault : FAULTS) {
            VipCache c = prepared(fault);
            due(call, made.applyAsInt(c), answer);
            same(call, seen(c), seen(prepared(fault)));
        }
    }

    /** The same for load, store and trade, that set what fault() answers and nothing else. */
    private static void faulted(String call, ToIntFunction<VipCache> made, int answer, int code) {
        for (int fault : FAULTS) {
            VipCache c = prepared(fault);
            due(call, made.applyAsInt(c), answer);
            due("fault() after " + call, c.fault(), code);
            same(call, seen(c), seen(prepared(code)));
        }
    }

    private static void unseen(String call, Consumer<VipCache> made) {
        for (int fault : FAULTS) {
            VipCache c = prepared(fault);
            made.accept(c);
            same(call, seen(c), seen(prepared(fault)));
        }
    }

    // ---- What it is, and Terms

    private static int callOfKind(VipCache c, int kind, int a, int b, int x) {
        switch (kind) {
            case 0: return c.map(a, b, x);
            case 1: return c.unmap(a);
            case 2: return c.frameOf(a);
            case 3: return c.allow(a, b);
            case 4: return c.load(a, b);
            case 5: return c.store(a, b, x);
            case 6: return c.trade(a, b, x);
            case 7: return c.fault();
            case 8: return c.word(a, b);
            case 9: return c.setWord(a, b, x);
            case 10: return c.copyFrame(a, b);
            case 11: return c.marks(a);
            case 12: return c.clearMarks(a);
            case 13: return c.shown(a);
            case 14: return c.dirtyPages();
            case 15: c.flush(); return 0;
            case 16: return c.forget(a);
            default: return c.warm(a);
        }
    }

    private static final int KINDS = 18;

    /** After 511 calls, all but the first six of one kind, that leave alone what the first ones have made. */
    private static VipCache beforeTheLast(int kind) {
        VipCache c = new VipCache();
        c.map(5, 2, 1);
        c.store(5, 6, 60);
        c.store(5, 7, 70);
        c.trade(5, 7, 71);
        c.map(6, 2, 0);
        c.store(6, 7, 72);
        for (int made = 6; made < LAST_PROMISED_CALL - 1; made++) {
            callOfKind(c, kind, 7, 1, 1);
        }
        return c;
    }

    private static void lastPromisedCall() {
        for (int kind = 0; kind < KINDS; kind++) {
            // Page 7, on which they work, is unmapped then.
            boolean setsFault = kind == 4 || kind == 5 || kind == 6;
            String after = " as the 512th call, after calls of kind " + kind;
            due("map(5, 4, 1)" + after, beforeTheLast(kind).map(5, 4, 1), 2);
            due("unmap(5)" + after, beforeTheLast(kind).unmap(5), 2);
            due("frameOf(5)" + after, beforeTheLast(kind).frameOf(5), 2);
            due("allow(5, 0)" + after, beforeTheLast(kind).allow(5, 0), 1);
            due("load(5, 7)" + after, beforeTheLast(kind).load(5, 7), 71);
            due("load(6, 7)" + after, beforeTheLast(kind).load(6, 7), 71);
            due("store(6, 0, 1)" + after, beforeTheLast(kind).store(6, 0, 1), READ_ONLY);
            due("store(5, 0, 1)" + after, beforeTheLast(kind).store(5, 0, 1), 0);
            due("trade(5, 6, 1)" + after, beforeTheLast(kind).trade(5, 6, 1), 60);
            due("fault()" + after, beforeTheLast(kind).fault(), setsFault ? UNMAPPED : READ_ONLY);
            due("word(2, 7)" + after, beforeTheLast(kind).word(2, 7), 71);
            due("setWord(2, 7, 1)" + after, beforeTheLast(kind).setWord(2, 7, 1), 0);
            due("copyFrame(2, 0)" + after, beforeTheLast(kind).copyFrame(2, 0), 2);
            due("marks(5)" + after, beforeTheLast(kind).marks(5), 3);
            due("clearMarks(5)" + after, beforeTheLast(kind).clearMarks(5), 3);
            due("shown(2)" + after, beforeTheLast(kind).shown(2), 2);
            due("dirtyPages()" + after, beforeTheLast(kind).dirtyPages(), 1);
            due("forget(5)" + after, beforeTheLast(kind).forget(5), 0);
            due("warm(2)" + after, beforeTheLast(kind).warm(2), 0);
        }
    }

    /** What these calls answer is free, so it isn't looked at. */
    private static void laterCallsDoNotThrow() {
        VipCache c = new VipCache();
        for (int i = 0; i < 100 * LAST_PROMISED_CALL; i++) {
            callOfKind(c, i % KINDS, i / 7 % 17, i / 5 % 9, i);
        }
    }

    private static void sixtyFourWordsApart() {
        VipCache direct = new VipCache();
        VipCache paged = new VipCache();
        for (int f = 0; f < FRAMES; f++) {
            paged.map(f, f, 1);
            for (int w = 0; w < WORDS; w++) {
                direct.setWord(f, w, wordAt(f, w));
                paged.store(f, w, wordAt(f, w));
            }
        }
        for (int f = 0; f < FRAMES; f++) {
            for (int w = 0; w < WORDS; w++) {
                due("word(" + f + ", " + w + ") set directly", direct.word(f, w), wordAt(f, w));
                due("word(" + f + ", " + w + ") stored", paged.word(f, w), wordAt(f, w));
                due("load(" + f + ", " + w + ")", paged.load(f, w), wordAt(f, w));
            }
        }
    }

    private static void wordsAreInts() {
        VipCache c = new VipCache();
        c.map(0, 0, 1);
        due("load of a word at first", c.load(0, 7), 0);
        due("trade of a word at first", c.trade(0, 6, 1), 0);
        for (int x : ODD_WORDS) {
            c.store(0, 0, x);
            due("load of " + x, c.load(0, 0), x);
            c.setWord(0, 1, x);
            due("word set to " + x, c.word(0, 1), x);
            c.trade(0, 2, x);
            due("trade of " + x, c.trade(0, 2, 5), x);
            c.copyFrame(7, 0);
            due("copy of " + x, c.word(7, 1), x);
        }
    }

    private static void sixteenPagesApart() {
        for (int v = 0; v < PAGES; v++) {
            VipCache c = new VipCache();
            c.map(v, 7, 1);
            c.store(v, 0, 1);
            for (int other = 0; other < PAGES; other++) {
                due("frameOf(" + other + ")", c.frameOf(other), other == v ? 7 : UNMAPPED);
                due("marks(" + other + ")", c.marks(other), other == v ? 3 : 0);
                due("allow(" + other + ", 1)", c.allow(other, 1), other == v ? 1 : UNMAPPED);
            }
        }
    }

    private static void allPagesOnOneFrame() {
        for (int f = 0; f < FRAMES; f += FRAMES - 1) {
            VipCache c = new VipCache();
            for (int v = 0; v < PAGES; v++) {
                c.map(v, f, v % 2);
            }
            for (int v = 1; v < PAGES; v += 2) {
                c.store(v, v % WORDS, v);
                for (int other = 0; other < PAGES; other++) {
                    due("load(" + other + ", " + v % WORDS + ") after a store through " + v, c.load(other, v % WORDS), v);
                }
            }
        }
    }

    private static void housekeepingUnseen() {
        unseen("flush()", c -> c.flush());
        for (int v = -1; v <= PAGES; v++) {
            int page = v;
            unseen("forget(" + v + ")", c -> c.forget(page));
        }
        for (int f = -1; f <= FRAMES; f++) {
            int frame = f;
            unseen("warm(" + f + ")", c -> c.warm(frame));
        }
        unseen("all housekeeping", c -> housekeep(c));
        VipCache fresh = new VipCache();
        housekeep(fresh);
        same("all housekeeping of a new object", seen(fresh), seen(new VipCache()));
    }

    private static void housekeep(VipCache c) {
        for (int i = 0; i < PAGES; i++) {
            c.warm(i % FRAMES);
            c.flush();
            c.forget(i);
        }
    }

    private static void pagesOutOfRange() {
        for (int v : BAD_PAGES) {
            changesNothing("map(" + v + ", 0, 1)", c -> c.map(v, 0, 1), BAD_ARG);
            changesNothing("unmap(" + v + ")", c -> c.unmap(v), BAD_ARG);
            changesNothing("frameOf(" + v + ")", c -> c.frameOf(v), BAD_ARG);
            changesNothing("allow(" + v + ", 0)", c -> c.allow(v, 0), BAD_ARG);
            changesNothing("allow(" + v + ", 1)", c -> c.allow(v, 1), BAD_ARG);
            faulted("load(" + v + ", 0)", c -> c.load(v, 0), 0, BAD_ARG);
            faulted("store(" + v + ", 0, 5)", c -> c.store(v, 0, 5), BAD_ARG, BAD_ARG);
            faulted("trade(" + v + ", 0, 5)", c -> c.trade(v, 0, 5), 0, BAD_ARG);
            changesNothing("marks(" + v + ")", c -> c.marks(v), BAD_ARG);
            changesNothing("clearMarks(" + v + ")", c -> c.clearMarks(v), BAD_ARG);
            changesNothing("forget(" + v + ")", c -> c.forget(v), BAD_ARG);
        }
    }

    private static void framesOutOfRange() {
        for (int f : BAD_EIGHTHS) {
            changesNothing("map(0, " + f + ", 1)", c -> c.map(0, f, 1), BAD_ARG);
            changesNothing("map(9, " + f + ", 1)", c -> c.map(NEVER_MAPPED, f, 1), BAD_ARG);
            changesNothing("setWord(" + f + ", 0, 5)", c -> c.setWord(f, 0, 5), BAD_ARG);
            changesNothing("setWord(" + f + ", 7, 5)", c -> c.setWord(f, 7, 5), BAD_ARG);
            changesNothing("copyFrame(" + f + ", 1)", c -> c.copyFrame(f, 1), BAD_ARG);
            changesNothing("copyFrame(1, " + f + ")", c -> c.copyFrame(1, f), BAD_ARG);
            changesNothing("copyFrame(" + f + ", " + f + ")", c -> c.copyFrame(f, f), BAD_ARG);
            changesNothing("shown(" + f + ")", c -> c.shown(f), BAD_ARG);
            changesNothing("warm(" + f + ")", c -> c.warm(f), BAD_ARG);
        }
    }

    private static void wordsOutOfRange() {
        for (int w : BAD_EIGHTHS) {
            faulted("load(0, " + w + ")", c -> c.load(DIRTY_PAGE, w), 0, BAD_ARG);
            faulted("store(0, " + w + ", 5)", c -> c.store(DIRTY_PAGE, w, 5), BAD_ARG, BAD_ARG);
            faulted("trade(0, " + w + ", 5)", c -> c.trade(DIRTY_PAGE, w, 5), 0, BAD_ARG);
            changesNothing("setWord(0, " + w + ", 5)", c -> c.setWord(0, w, 5), BAD_ARG);
            changesNothing("setWord(7, " + w + ", 5)", c -> c.setWord(7, w, 5), BAD_ARG);
        }
    }

    /** A wrong argument goes before all else for which the call would be refused. */
    private static void argumentsFirst() {
        int[] bad = {-1, WORDS};
        int[] pages = {FREED_PAGE, NEVER_MAPPED, LOCKED_PAGE, CLEAN_LOCKED_PAGE, -1, PAGES};
        for (int w : bad) {
            for (int v : pages) {
                faulted("load(" + v + ", " + w + ")", c -> c.load(v, w), 0, BAD_ARG);
                faulted("store(" + v + ", " + w + ", 5)", c -> c.store(v, w, 5), BAD_ARG, BAD_ARG);
                faulted("trade(" + v + ", " + w + ", 5)", c -> c.trade(v, w, 5), 0, BAD_ARG);
                changesNothing("map(" + v + ", " + w + ", 1)", c -> c.map(v, w, 1), BAD_ARG);
            }
            changesNothing("setWord(" + w + ", " + w + ", 5)", c -> c.setWord(w, w, 5), BAD_ARG);
        }
    }

    private static void argumentsAtTheEnds() {
        for (int v = 0; v < PAGES; v += PAGES - 1) {
            for (int f = 0; f < FRAMES; f += FRAMES - 1) {
                for (int w = 0; w < WORDS; w += WORDS - 1) {
                    String at = " at page " + v + ", frame " + f + ", word " + w;
                    VipCache c = new VipCache();
                    due("map" + at, c.map(v, f, 1), UNMAPPED);
                    due("frameOf" + at, c.frameOf(v), f);
                    due("store" + at, c.store(v, w, 8), 0);
                    due("load" + at, c.load(v, w), 8);
                    due("trade" + at, c.trade(v, w, 9), 8);
                    due("fault()" + at, c.fault(), 0);
                    due("word" + at, c.word(f, w), 9);
                    due("setWord" + at, c.setWord(f, w, 10), 0);
                    due("copyFrame to" + at, c.copyFrame(f, 4), 1);
                    due("copyFrame from" + at, c.copyFrame(4, f), 0);
                    due("marks" + at, c.marks(v), 3);
                    due("clearMarks" + at, c.clearMarks(v), 3);
                    due("shown" + at, c.shown(f), 1);
                    due("allow" + at, c.allow(v, 0), 1);
                    due("forget" + at, c.forget(v), 0);
                    due("warm" + at, c.warm(f), 0);
                    due("unmap" + at, c.unmap(v), f);
                }
            }
        }
    }

    /** Every kind of call with all odd numbers in all places, on an empty and on a used object. */
    private static void neverThrows() {
        int[] odd = {0, 1, 7, 8, 9, 15, 16, -1, -2, 1 << 28, 1 << 29, 1 << 30, Integer.MIN_VALUE, Integer.MAX_VALUE};
        for (int kind = 0; kind < KINDS; kind++) {
            for (int a : odd) {
                for (int b : odd) {
                    VipCache used = prepared(0);
                    VipCache empty = new VipCache();
                    for (int x : odd) {
                        callOfKind(empty, kind, a, b, x);
                        callOfKind(used, kind, a, b, x);
                    }
                }
            }
        }
    }

    private static void refusedCallsChangeNothing() {
        for (int v : UNMAPPED_PAGES) {
            changesNothing("allow(" + v + ", 1)", c -> c.allow(v, 1), UNMAPPED);
            changesNothing("allow(" + v + ", 0)", c -> c.allow(v, 0), UNMAPPED);
        }
        for (int v = -1; v <= PAGES; v += PAGES + 1) {
            int page = v;
            changesNothing("map(" + v + ", 1, 0)", c -> c.map(page, 1, 0), BAD_ARG);
            changesNothing("unmap(" + v + ")", c -> c.unmap(page), BAD_ARG);
            changesNothing("allow(" + v + ", 0)", c -> c.allow(page, 0), BAD_ARG);
            changesNothing("clearMarks(" + v + ")", c -> c.clearMarks(page), BAD_ARG);
        }
        for (int f = -1; f <= FRAMES; f += FRAMES + 1) {
            int frame = f;
            changesNothing("map(0, " + f + ", 0)", c -> c.map(DIRTY_PAGE, frame, 0), BAD_ARG);
            changesNothing("map(14, " + f + ", 1)", c -> c.map(LOCKED_PAGE, frame, 1), BAD_ARG);
            changesNothing("setWord(" + f + ", 0, 5)", c -> c.setWord(frame, 0, 5), BAD_ARG);
            changesNothing("copyFrame(" + f + ", 1)", c -> c.copyFrame(frame, 1), BAD_ARG);
            changesNothing("copyFrame(1, " + f + ")", c -> c.copyFrame(1, frame), BAD_ARG);
        }
    }

    private static void refusedAccessesSetFaultAlone() {
        for (int v : UNMAPPED_PAGES) {
            faulted("load(" + v + ", 0)", c -> c.load(v, 0), 0, UNMAPPED);
            faulted("store(" + v + ", 0, 5)", c -> c.store(v, 0, 5), UNMAPPED, UNMAPPED);
            faulted("trade(" + v + ", 0, 5)", c -> c.trade(v, 0, 5), 0, UNMAPPED);
        }
        for (int v : READ_ONLY_PAGES) {
            faulted("store(" + v + ", 0, 5)", c -> c.store(v, 0, 5), READ_ONLY, READ_ONLY);
            faulted("trade(" + v + ", 0, 5)", c -> c.trade(v, 0, 5), 0, READ_ONLY);
        }
    }

    // ---- Promises 1 to 5

    private static void newObject() {
        prepared(READ_ONLY);
        VipCache c = new VipCache();
        due("fault()", c.fault(), 0);
        due("dirtyPages()", c.dirtyPages(), 0);
        for (int v = 0; v < PAGES; v++) {
            due("frameOf(" + v + ")", c.frameOf(v), UNMAPPED);
            due("allow(" + v + ", 1)", c.allow(v, 1), UNMAPPED);
            due("marks(" + v + ")", c.marks(v), 0);
        }
        for (int f = 0; f < FRAMES; f++) {
            due("shown(" + f + ")", c.shown(f), 0);
            for (int w = 0; w < WORDS; w++) {
                due("word(" + f + ", " + w + ")", c.word(f, w), 0);
            }
        }
    }

    private static void mapShowsFrom() {
        VipCache c = prepared(0);
        for (int f = 0; f < FRAMES; f++) {
            c.map(DIRTY_PAGE, f, 1);
            due("frameOf(0)", c.frameOf(DIRTY_PAGE), f);
            due("load(0, 7) of frame " + f, c.load(DIRTY_PAGE, 7), wordAt(f, 7));
            c.store(DIRTY_PAGE, 7, -f);
            due("word(" + f + ", 7)", c.word(f, 7), -f);
        }
        due("the frame left keeps what was stored", c.word(3, 7), -3);
        due("another page stays", c.frameOf(USED_PAGE), 3);
    }

    private static void mapWritable() {
        VipCache c = new VipCache();
        for (int on : NOT_ZERO) {
            c.map(3, 4, 0);
            due("store after map with 0", c.store(3, 0, 1), READ_ONLY);
            c.map(3, 4, on);
            due("store after map with " + on, c.store(3, 0, 1), 0);
            due("allow after map with " + on, c.allow(3, 1), 1);
        }
    }

    private static void mapClearsMarks() {
        VipCache c = prepared(0);
        c.map(DIRTY_PAGE, 3, 1);
        due("marks(0) mapped to the frame it showed", c.marks(DIRTY_PAGE), 0);
        c.map(USED_PAGE, 4, 1);
        due("marks(1) mapped to another frame", c.marks(USED_PAGE), 0);
        c.map(LOCKED_PAGE, 7, 0);
        due("marks(14) mapped read-only", c.marks(LOCKED_PAGE), 0);
        c.map(FREED_PAGE, 0, 1);
        due("marks(2) mapped anew", c.marks(FREED_PAGE), 0);
        due("dirtyPages()", c.dirtyPages(), 0);
        c.store(DIRTY_PAGE, 0, 1);
        c.map(USED_PAGE, 3, 1);
        due("marks(0) when another page is mapped to its frame", c.marks(DIRTY_PAGE), 3);
    }

    private static void mapAnswers() {
        VipCache c = prepared(0);
        due("map of a page never mapped", c.map(NEVER_MAPPED, 0, 1), UNMAPPED);
        due("map after frame 0", c.map(NEVER_MAPPED, 7, 1), 0);
        due("map after frame 7", c.map(NEVER_MAPPED, 7, 0), 7);
        due("map after the same frame", c.map(NEVER_MAPPED, 1, 0), 7);
        due("map after unmap", c.map(FREED_PAGE, 1, 0), UNMAPPED);
    }

    private static void unmapMakesUnmapped() {
        int[] pages = {DIRTY_PAGE, LOCKED_PAGE, CLEAN_LOCKED_PAGE, FREED_PAGE, NEVER_MAPPED};
        for (int v : pages) {
            VipCache c = prepared(0);
            c.unmap(v);
            due("frameOf(" + v + ")", c.frameOf(v), UNMAPPED);
            due("allow(" + v + ", 1)", c.allow(v, 1), UNMAPPED);
            due("store(" + v + ", 0, 5)", c.store(v, 0, 5), UNMAPPED);
            due("load(" + v + ", 0)", c.load(v, 0), 0);
            due("fault()", c.fault(), UNMAPPED);
            due("shown(7)", c.shown(7), v == LOCKED_PAGE ? 0 : 1);
            due("a word of frame 7 stays", c.word(7, 7), wordAt(7, 7));
            c.map(v, 7, 0);
            due("mapped anew, load", c.load(v, 7), wordAt(7, 7));
            due("mapped anew read-only, store", c.store(v, 7, 5), READ_ONLY);
        }
    }

    private static void unmapClearsMarks() {
        VipCache c = prepared(0);
        c.unmap(DIRTY_PAGE);
        due("marks(0)", c.marks(DIRTY_PAGE), 0);
        due("clearMarks(0)", c.clearMarks(DIRTY_PAGE), 0);
        due("dirtyPages()", c.dirtyPages(), 1);
        due("marks(1), of the same frame, stay", c.marks(USED_PAGE), 1);
        c.unmap(LOCKED_PAGE);
        due("marks(14)", c.marks(LOCKED_PAGE), 0);
        due("dirtyPages() with none left", c.dirtyPages(), 0);
    }

    private static void unmapAnswers() {
        VipCache c = prepared(0);
        due("unmap of a page never mapped", c.unmap(NEVER_MAPPED), UNMAPPED);
        due("unmap after unmap", c.unmap(FREED_PAGE), UNMAPPED);
        due("unmap of frame 0", c.unmap(CLEAN_LOCKED_PAGE), 0);
        due("unmap of frame 7", c.unmap(LOCKED_PAGE), 7);
        due("unmap of it again", c.unmap(LOCKED_PAGE), UNMAPPED);
    }

    private static void frameOfAnswers() {
        VipCache c = prepared(0);
        due("frameOf a page never mapped", c.frameOf(NEVER_MAPPED), UNMAPPED);
        due("frameOf after unmap", c.frameOf(FREED_PAGE), UNMAPPED);
        due("frameOf a page of frame 0", c.frameOf(CLEAN_LOCKED_PAGE), 0);
        due("frameOf a page of frame 7", c.frameOf(LOCKED_PAGE), 7);
        unseen("frameOf of all pages", x -> {
            for (int v = 0; v < PAGES; v++) {
                x.frameOf(v);
            }
        });
    }

    private static void allowSwitches() {
        VipCache c = prepared(0);
        for (int on : NOT_ZERO) {
            c.allow(USED_PAGE, 0);
            due("marks after allow with 0", c.marks(USED_PAGE), 1);
            due("store after allow with 0", c.store(USED_PAGE, 0, 5), READ_ONLY);
            c.allow(USED_PAGE, on);
            due("marks after allow with " + on, c.marks(USED_PAGE), 1);
            due("store after allow with " + on, c.store(USED_PAGE, 0, 5), 0);
            c.clearMarks(USED_PAGE);
            c.load(USED_PAGE, 0);
            c.allow(LOCKED_PAGE, on);
            due("marks of a dirty page after allow with " + on, c.marks(LOCKED_PAGE), 3);
        }
        c.allow(DIRTY_PAGE, 0);
        due("the other page of the frame stays writable", c.store(USED_PAGE, 0, 5), 0);
        due("dirtyPages()", c.dirtyPages(), 3);
    }

    private static void allowAnswers() {
        VipCache c = prepared(0);
        due("allow of a page never mapped", c.allow(NEVER_MAPPED, 1), UNMAPPED);
        due("allow after unmap", c.allow(FREED_PAGE, 1), UNMAPPED);
        for (int on : NOT_ZERO) {
            due("allow(15, " + on + ") read-only before", c.allow(CLEAN_LOCKED_PAGE, on), 0);
            due("allow(15, " + on + ") writable before", c.allow(CLEAN_LOCKED_PAGE, on), 1);
            due("allow(15, 0) writable before", c.allow(CLEAN_LOCKED_PAGE, 0), 1);
            due("allow(15, 0) read-only before", c.allow(CLEAN_LOCKED_PAGE, 0), 0);
        }
        c.map(NEVER_MAPPED, 0, 0);
        due("allow while unmapped left nothing", c.allow(NEVER_MAPPED, 0), 0);
    }

    // ---- Promises 6 to 9

    private static void loadAnswersAndMarks() {
        VipCache c = prepared(0);
        due("load(15, 0), read-only", c.load(CLEAN_LOCKED_PAGE, 0), wordAt(0, 0));
        due("marks(15)", c.marks(CLEAN_LOCKED_PAGE), 1);
        due("load(15, 7)", c.load(CLEAN_LOCKED_PAGE, 7), wordAt(0, 7));
        due("marks(15) when USED was set", c.marks(CLEAN_LOCKED_PAGE), 1);
        c.load(DIRTY_PAGE, 0);
        due("marks(0) keep DIRTY", c.marks(DIRTY_PAGE), 3);
        c.clearMarks(DIRTY_PAGE);
        c.load(USED_PAGE, 0);
        due("marks(0), of the same frame", c.marks(DIRTY_PAGE), 0);
    }

    private static void loadRefused() {
        faulted("load of a page never mapped", c -> c.load(NEVER_MAPPED, 0), 0, UNMAPPED);
        faulted("load after unmap", c -> c.load(FREED_PAGE, 0), 0, UNMAPPED);
        faulted("load(-1, 0)", c -> c.load(-1, 0), 0, BAD_ARG);
        faulted("load(16, 0)", c -> c.load(PAGES, 0), 0, BAD_ARG);
        faulted("load(0, -1)", c -> c.load(DIRTY_PAGE, -1), 0, BAD_ARG);
        faulted("load(0, 8)", c -> c.load(DIRTY_PAGE, WORDS), 0, BAD_ARG);
    }

    private static void loadFault() {
        for (int fault : FAULTS) {
            VipCache c = prepared(fault);
            c.load(CLEAN_LOCKED_PAGE, 0);
            due("fault() after load of a read-only page", c.fault(), 0);
            setFault(c, fault);
            c.load(NEVER_MAPPED, 0);
            due("fault() after load of an unmapped page", c.fault(), UNMAPPED);
            setFault(c, fault);
            c.load(NEVER_MAPPED, WORDS);
            due("fault() after load of word 8 of an unmapped page", c.fault(), BAD_ARG);
            for (int x : ODD_WORDS) {
                setFault(c, fault);
                c.setWord(0, 0, x);
                due("load of " + x, c.load(CLEAN_LOCKED_PAGE, 0), x);
                due("fault() after it", c.fault(), 0);
            }
        }
    }

    private static void storeStores() {
        for (int x : ODD_WORDS) {
            VipCache c = prepared(0);
            c.clearMarks(DIRTY_PAGE);
            c.store(DIRTY_PAGE, 7, x);
            due("word(3, 7) after store of " + x, c.word(3, 7), x);
            due("word(3, 6), beside it", c.word(3, 6), wordAt(3, 6));
            due("word(4, 0), beside it", c.word(4, 0), wordAt(4, 0));
            due("marks(0) after store of " + x, c.marks(DIRTY_PAGE), 3);
            due("marks(1), of the same frame", c.marks(USED_PAGE), 1);
            c.clearMarks(DIRTY_PAGE);
            c.store(DIRTY_PAGE, 7, x);
            due("marks(0) after store of the word that is there, " + x, c.marks(DIRTY_PAGE), 3);
            c.store(USED_PAGE, 7, x);
            due("marks(1) when USED was set", c.marks(USED_PAGE), 3);
        }
    }

    private static void storeOrder() {
        faulted("store, never mapped", c -> c.store(NEVER_MAPPED, 0, 5), UNMAPPED, UNMAPPED);
        faulted("store, unmapped after it was writable", c -> c.store(FREED_PAGE, 0, 5), UNMAPPED, UNMAPPED);
        faulted("store, read-only and dirty", c -> c.store(LOCKED_PAGE, 7, 5), READ_ONLY, READ_ONLY);
        faulted("store, read-only, of the word that is there", c -> c.store(LOCKED_PAGE, 7, wordAt(7, 7)), READ_ONLY, READ_ONLY);
        faulted("store, read-only, of word 8", c -> c.store(LOCKED_PAGE, 8, 5), BAD_ARG, BAD_ARG);
        faulted("store, unmapped, of word -1", c -> c.store(NEVER_MAPPED, -1, 5), BAD_ARG, BAD_ARG);
        VipCache c = prepared(0);
        c.unmap(CLEAN_LOCKED_PAGE);
        due("store, unmapped after it was read-only", c.store(CLEAN_LOCKED_PAGE, 0, 5), UNMAPPED);
        c.map(CLEAN_LOCKED_PAGE, 0, 0);
        due("store, mapped anew read-only", c.store(CLEAN_LOCKED_PAGE, 0, 5), READ_ONLY);
    }

    private static void storeAnswersZero() {
        VipCache c = prepared(0);
        for (int x : ODD_WORDS) {
            due("store of " + x, c.store(USED_PAGE, 0, x), 0);
            due("store of " + x + " again", c.store(USED_PAGE, 0, x), 0);
        }
    }

    private static void storeFault() {
        int[] pages = {DIRTY_PAGE, PAGES, NEVER_MAPPED, LOCKED_PAGE};
        for (int before : pages) {
            for (int v : pages) {
                VipCache c = prepared(0);
                c.store(before, 0, 5);
                int answer = c.store(v, 0, 6);
                due("fault() after store(" + before + ") and store(" + v + ")", c.fault(), answer);
            }
        }
    }

    private static void tradeTrades() {
        for (int x : ODD_WORDS) {
            VipCache c = prepared(0);
            due("trade(1, 7, " + x + ")", c.trade(USED_PAGE, 7, x), wordAt(3, 7));
            due("fault()", c.fault(), 0);
            due("word(3, 7)", c.word(3, 7), x);
            due("marks(1)", c.marks(USED_PAGE), 3);
            c.clearMarks(USED_PAGE);
            due("trade for the same, " + x, c.trade(USED_PAGE, 7, x), x);
            due("fault() after that", c.fault(), 0);
            due("marks(1) after that", c.marks(USED_PAGE), 3);
            c.clearMarks(DIRTY_PAGE);
            c.trade(USED_PAGE, 7, 5);
            due("marks(0), of the same frame", c.marks(DIRTY_PAGE), 0);
        }
    }

    private static void tradeRefused() {
        faulted("trade, never mapped", c -> c.trade(NEVER_MAPPED, 0, 5), 0, UNMAPPED);
        faulted("trade, unmapped after it was writable", c -> c.trade(FREED_PAGE, 0, 5), 0, UNMAPPED);
        faulted("trade, read-only and dirty", c -> c.trade(LOCKED_PAGE, 7, 5), 0, READ_ONLY);
        faulted("trade, read-only, of the word that is there", c -> c.trade(LOCKED_PAGE, 7, wordAt(7, 7)), 0, READ_ONLY);
        faulted("trade, read-only, of word 8", c -> c.trade(LOCKED_PAGE, 8, 5), 0, BAD_ARG);
        faulted("trade, unmapped, of word -1", c -> c.trade(NEVER_MAPPED, -1, 5), 0, BAD_ARG);
        VipCache c = prepared(0);
        c.unmap(CLEAN_LOCKED_PAGE);
        c.trade(CLEAN_LOCKED_PAGE, 0, 5);
        due("fault() after trade, unmapped after it was read-only", c.fault(), UNMAPPED);
    }

    private static void faultOfTheLast() {
        int[] pages = {DIRTY_PAGE, PAGES, NEVER_MAPPED, LOCKED_PAGE};
        for (int i = 0; i < pages.length; i++) {
            for (int kind = 4; kind <= 6; kind++) {
                for (int next = 0; next < KINDS; next++) {
                    if (next < 4 || next > 6) {
                        VipCache c = prepared(FAULTS[(i + 1) % FAULTS.length]);
                        callOfKind(c, kind, pages[i], 0, 5);
                        int want = kind == 4 && FAULTS[i] == READ_ONLY ? 0 : FAULTS[i];
                        callOfKind(c, next, 5, 5, 5);
                        due("fault() after kinds " + kind + ", " + next, c.fault(), want);
                        callOfKind(c, next, -1, 8, 5);
                        due("fault() after kinds " + kind + ", " + next + " refused", c.fault(), want);
                    }
                }
            }
        }
    }

    private static void faultAfterNone() {
        for (int kind = 0; kind < KINDS; kind++) {
            if (kind < 4 || kind > 6) {
                VipCache c = new VipCache();
                callOfKind(c, kind, 5, 5, 5);
                callOfKind(c, kind, -1, 8, 5);
                due("fault() after calls of kind " + kind, c.fault(), 0);
            }
        }
    }

    // ---- Promises 10 to 19

    private static void wordOutOfRange() {
        for (int bad : BAD_EIGHTHS) {
            for (int good = 0; good < WORDS; good += WORDS - 1) {
                int at = good;
                changesNothing("word(" + bad + ", " + at + ")", c -> c.word(bad, at), 0);
                changesNothing("word(" + at + ", " + bad + ")", c -> c.word(at, bad), 0);
            }
            changesNothing("word(" + bad + ", " + bad + ")", c -> c.word(bad, bad), 0);
        }
    }

    private static void wordDirectly() {
        VipCache c = prepared(0);
        for (int f = 0; f < FRAMES; f++) {
            for (int w = 0; w < WORDS; w++) {
                due("word(" + f + ", " + w + "), whether a page shows it or not", c.word(f, w), wordAt(f, w));
            }
        }
        for (int x : ODD_WORDS) {
            c.store(DIRTY_PAGE, 7, x);
            due("word(3, 7) after store", c.word(3, 7), x);
        }
        c.unmap(DIRTY_PAGE);
        c.unmap(USED_PAGE);
        due("word(3, 6) with its pages unmapped", c.word(3, 6), wordAt(3, 6));
    }

    private static void wordUnmarked() {
        unseen("word of all frames", c -> {
            for (int f = 0; f < FRAMES; f++) {
                c.word(f, 0);
                c.word(f, 7);
            }
        });
    }

    private static void setWordDirectly() {
        for (int x : ODD_WORDS) {
            VipCache c = prepared(UNMAPPED);
            c.setWord(0, 0, x);
            due("load(15, 0), of a read-only page, set to " + x, c.load(CLEAN_LOCKED_PAGE, 0), x);
            c.setWord(5, 7, x);
            due("word(5, 7), of a frame that no page shows, set to " + x, c.word(5, 7), x);
            due("word(5, 6), beside it", c.word(5, 6), wordAt(5, 6));
            due("word(6, 0), beside it", c.word(6, 0), wordAt(6, 0));
        }
    }

    private static void setWordUnmarked() {
        for (int f = 0; f < FRAMES; f++) {
            int frame = f;
            unseen("setWord and back in frame " + f, c -> {
                c.setWord(frame, 7, 5);
                c.setWord(frame, 7, wordAt(frame, 7));
            });
        }
    }

    private static void setWordAnswers() {
        VipCache c = prepared(READ_ONLY);
        for (int x : ODD_WORDS) {
            due("setWord(0, 0, " + x + ") under a read-only page", c.setWord(0, 0, x), 0);
            due("setWord(7, 7, " + x + ")", c.setWord(7, 7, x), 0);
            due("setWord(7, 7, " + x + ") again", c.setWord(7, 7, x), 0);
            due("setWord(5, 7, " + x + ") under no page", c.setWord(5, 7, x), 0);
        }
    }

    private static void copyFrameCounts() {
        for (int differing = 0; differing <= WORDS; differing++) {
            VipCache c = prepared(0);
            due("copyFrame(0, 7), all differ", c.copyFrame(0, 7), WORDS);
            for (int w = 0; w < differing; w++) {
                c.setWord(0, WORDS - 1 - w, 5);
            }
            due("copyFrame(0, 7), " + differing + " differ", c.copyFrame(0, 7), differing);
            due("copyFrame(0, 7) again", c.copyFrame(0, 7), 0);
            due("copyFrame(0, 0)", c.copyFrame(0, 0), 0);
            due("copyFrame(7, 7)", c.copyFrame(7, 7), 0);
        }
        VipCache c = new VipCache();
        due("copyFrame(1, 2), all 0", c.copyFrame(1, 2), 0);
        c.setWord(1, 0, 1);
        c.setWord(2, 7, -1);
        due("copyFrame(1, 2), changes to 0 and to -1", c.copyFrame(1, 2), 2);
    }

    private static void copyFrameCopies() {
        for (int f = 0; f < FRAMES; f++) {
            for (int g = 0; g < FRAMES; g++) {
                VipCache c = prepared(0);
                c.copyFrame(f, g);
                for (int other = 0; other < FRAMES; other++) {
                    for (int w = 0; w < WORDS; w++) {
                        int want = wordAt(other == f ? g : other, w);
                        due("word(" + other + ", " + w + ") after copyFrame(" + f + ", " + g + ")", c.word(other, w), want);
                    }
                }
                c.setWord(g, 0, 5);
                due("copyFrame(" + f + ", " + g + ") ties no word to its source", c.word(f, 0), f == g ? 5 : wordAt(g, 0));
            }
        }
    }

    private static void copyFrameUnmarked() {
        VipCache c = prepared(READ_ONLY);
        c.copyFrame(3, 7);
        c.copyFrame(7, 0);
        c.copyFrame(0, 3);
        int[] pages = {DIRTY_PAGE, USED_PAGE, FREED_PAGE, LOCKED_PAGE, CLEAN_LOCKED_PAGE};
        int[] marks = {3, 1, 0, 3, 0};
        for (int i = 0; i < pages.length; i++) {
            due("marks(" + pages[i] + ")", c.marks(pages[i]), marks[i]);
        }
        due("fault()", c.fault(), READ_ONLY);
        due("load(15, 7), of a read-only page", c.load(CLEAN_LOCKED_PAGE, 7), wordAt(7, 7));
    }

    private static void marksAnswer() {
        VipCache c = prepared(0);
        due("marks with both set", c.marks(DIRTY_PAGE), 3);
        due("marks with USED set", c.marks(USED_PAGE), 1);
        due("marks with none set", c.marks(CLEAN_LOCKED_PAGE), 0);
        due("marks of a page never mapped", c.marks(NEVER_MAPPED), 0);
        due("marks after unmap of a dirty page", c.marks(FREED_PAGE), 0);
        c.store(FREED_PAGE, 0, 5);
        c.load(FREED_PAGE, 0);
        due("marks of an unmapped page after a refused store and load", c.marks(FREED_PAGE), 0);
        unseen("marks of all pages", x -> {
            for (int v = 0; v < PAGES; v++) {
                x.marks(v);
            }
        });
    }

    private static void clearMarksClears() {
        VipCache c = prepared(0);
        c.clearMarks(DIRTY_PAGE);
        due("marks(0)", c.marks(DIRTY_PAGE), 0);
        due("dirtyPages()", c.dirtyPages(), 1);
        due("frameOf(0)", c.frameOf(DIRTY_PAGE), 3);
        due("allow(0, 1)", c.allow(DIRTY_PAGE, 1), 1);
        due("word(3, 0)", c.word(3, 0), wordAt(3, 0));
        due("marks(1), of the same frame", c.marks(USED_PAGE), 1);
        c.clearMarks(LOCKED_PAGE);
        due("marks(14), read-only", c.marks(LOCKED_PAGE), 0);
        due("allow(14, 0)", c.allow(LOCKED_PAGE, 0), 0);
    }

    private static void clearMarksAnswers() {
        VipCache c = prepared(0);
        due("clearMarks with both set", c.clearMarks(DIRTY_PAGE), 3);
        due("clearMarks with none left", c.clearMarks(DIRTY_PAGE), 0);
        due("clearMarks with USED set", c.clearMarks(USED_PAGE), 1);
        changesNothing("clearMarks with none set", x -> x.clearMarks(CLEAN_LOCKED_PAGE), 0);
        changesNothing("clearMarks of a page never mapped", x -> x.clearMarks(NEVER_MAPPED), 0);
        changesNothing("clearMarks after unmap of a dirty page", x -> x.clearMarks(FREED_PAGE), 0);
    }

    private static void shownCounts() {
        for (int f = 0; f < FRAMES; f++) {
            VipCache c = new VipCache();
            due("shown(" + f + ") by none", c.shown(f), 0);
            for (int v = 0; v < PAGES; v++) {
                c.map(v, f, v % 2);
                due("shown(" + f + ") by pages 0 to " + v, c.shown(f), v + 1);
            }
            c.map(0, f, 1);
            due("shown(" + f + ") when mapped to it again", c.shown(f), PAGES);
            c.map(0, (f + 1) % FRAMES, 1);
            due("shown(" + f + ") when one has left", c.shown(f), PAGES - 1);
            for (int v = 0; v < PAGES; v++) {
                c.unmap(v);
                c.unmap(v);
                due("shown(" + f + ") when 0 to " + v + " are unmapped", c.shown(f), PAGES - 1 - v);
            }
        }
    }

    private static void dirtyPagesCounts() {
        VipCache c = new VipCache();
        due("dirtyPages() of none", c.dirtyPages(), 0);
        for (int v = 0; v < PAGES; v++) {
            c.map(v, 7, 1);
            c.load(v, 0);
            due("dirtyPages() with " + v + " used", c.dirtyPages(), v);
            c.store(v, 0, 0);
            c.store(v, 0, 0);
            due("dirtyPages() of 0 to " + v, c.dirtyPages(), v + 1);
        }
        c.allow(0, 0);
        due("dirtyPages() with one read-only", c.dirtyPages(), PAGES);
        for (int v = 0; v < PAGES; v++) {
            callOfKind(c, v % 3 == 0 ? 0 : v % 3 == 1 ? 1 : 12, v, 7, 1);
            due("dirtyPages() when 0 to " + v + " are mapped, unmapped or cleared", c.dirtyPages(), PAGES - 1 - v);
        }
    }

    private static void flushHousekeeps() {
        VipCache empty = new VipCache();
        empty.flush();
        empty.flush();
        same("flush() of a new object", seen(empty), seen(new VipCache()));
        unseen("flush() twice", c -> {
            c.flush();
            c.flush();
        });
    }

    private static void forgetAnswers() {
        for (int v = 0; v < PAGES; v++) {
            int page = v;
            changesNothing("forget(" + v + ")", c -> c.forget(page), 0);
        }
        for (int v : BAD_PAGES) {
            changesNothing("forget(" + v + ")", c -> c.forget(v), BAD_ARG);
        }
    }

    private static void warmAnswers() {
        for (int f = 0; f < FRAMES; f++) {
            int frame = f;
            changesNothing("warm(" + f + ")", c -> c.warm(frame), 0);
        }
        for (int f : BAD_EIGHTHS) {
            changesNothing("warm(" + f + ")", c -> c.warm(f), BAD_ARG);
        }
    }

    private static void constants() {
        due("BAD_ARG", VipCache.BAD_ARG, BAD_ARG);
        due("UNMAPPED", VipCache.UNMAPPED, UNMAPPED);
        due("READ_ONLY", VipCache.READ_ONLY, READ_ONLY);
    }

    private static void terms() {
        test("What it is", "An object is used for at most 512 calls after it has been made", BoundaryTest::lastPromisedCall);
        test("Terms", "8 FRAMES 0 to 7 of 8 words 0 to 7", BoundaryTest::sixtyFourWordsApart);
        test("Terms", "(ints, 0 at first)", BoundaryTest::wordsAreInts);
        test("Terms", "PAGES 0 to 15", BoundaryTest::sixteenPagesApart);
        test("Terms", "a word stored through one of them is then loaded through all", BoundaryTest::allPagesOnOneFrame);
        test("Terms", "What the calls flush, forget and warm do can't be seen by any other call.", BoundaryTest::housekeepingUnseen);
        test("Terms, pages outside", ARGUMENTS, BoundaryTest::pagesOutOfRange);
        test("Terms, frames outside", ARGUMENTS, BoundaryTest::framesOutOfRange);
        test("Terms, words outside", ARGUMENTS, BoundaryTest::wordsOutOfRange);
        test("Terms, just inside", ARGUMENTS, BoundaryTest::argumentsAtTheEnds);
        test("Terms, tested first", ARGUMENTS, BoundaryTest::argumentsFirst);
        test("Terms", "No call ever throws.", BoundaryTest::neverThrows);
        test("Terms, after the 512th call too", "No call ever throws.", BoundaryTest::laterCallsDoNotThrow);
        test("Terms, nothing changes", REFUSED, BoundaryTest::refusedCallsChangeNothing);
        test("Terms, fault() alone is set", REFUSED, BoundaryTest::refusedAccessesSetFaultAlone);
        test("Terms", "The constants", BoundaryTest::constants);
    }

    private static void promises1To9() {
        test("Promise 1", "All pages are unmapped, all words 0; fault() answers 0.", BoundaryTest::newObject);
        test("Promise 2", "Page v shows frame f from now on", BoundaryTest::mapShowsFrom);
        test("Promise 2", "writable (on not 0) or read-only (on 0)", BoundaryTest::mapWritable);
        test("Promise 2", "its marks not set", BoundaryTest::mapClearsMarks);
        test("Promise 2", "Answers the frame it showed before, or UNMAPPED.", BoundaryTest::mapAnswers);
        test("Promise 3", "Page v becomes unmapped", BoundaryTest::unmapMakesUnmapped);
        test("Promise 3", "its marks are no longer set", BoundaryTest::unmapClearsMarks);
        test("Promise 3", "Answers the frame it showed, or UNMAPPED.", BoundaryTest::unmapAnswers);
        test("Promise 4", "The frame that page v shows, or UNMAPPED.", BoundaryTest::frameOfAnswers);
        test("Promise 5", "A mapped page becomes writable (on not 0) or read-only (on 0); marks stay.", BoundaryTest::allowSwitches);
        test("Promise 5", "UNMAPPED if it is unmapped; else 1 if it was writable before, 0 if not.", BoundaryTest::allowAnswers);
        test("Promise 6", "The word w of the frame that page v shows; the page's mark USED is set.", BoundaryTest::loadAnswersAndMarks);
        test("Promise 6", "The answer is 0 if that is refused", BoundaryTest::loadRefused);
        test("Promise 6", "answers BAD_ARG, UNMAPPED or 0 (not refused) afterwards.", BoundaryTest::loadFault);
        test("Promise 7", "The word w of the frame that page v shows becomes x; the page's marks USED and DIRTY are set.", BoundaryTest::storeStores);
        test("Promise 7", "(after the arguments): UNMAPPED; READ_ONLY.", BoundaryTest::storeOrder);
        test("Promise 7", "Otherwise 0.", BoundaryTest::storeAnswersZero);
        test("Promise 7", "fault() answers the same afterwards.", BoundaryTest::storeFault);
        test("Promise 8", "As store, but answers the word that was there before if it is not refused", BoundaryTest::tradeTrades);
        test("Promise 8", "and 0 if it is; fault() answers the code", BoundaryTest::tradeRefused);
        test("Promise 9", "What came of the last call of load, store or trade", BoundaryTest::faultOfTheLast);
        test("Promise 9", "0 if there was none.", BoundaryTest::faultAfterNone);
    }

    private static void promises10To19() {
        test("Promise 10", "The word w of frame f, directly", BoundaryTest::wordDirectly);
        test("Promise 10", "0 if f or w is not 0 to 7.", BoundaryTest::wordOutOfRange);
        test("Promise 10", "No mark is set.", BoundaryTest::wordUnmarked);
        test("Promise 11", "The word w of frame f becomes x, directly.", BoundaryTest::setWordDirectly);
        test("Promise 11", "No mark is set.", BoundaryTest::setWordUnmarked);
        test("Promise 11", "Answers 0.", BoundaryTest::setWordAnswers);
        test("Promise 12", "All words of frame f become those of frame g, directly.", BoundaryTest::copyFrameCopies);
        test("Promise 12", "No mark is set.", BoundaryTest::copyFrameUnmarked);
        test("Promise 12", "Answers how many words of f changed by this.", BoundaryTest::copyFrameCounts);
        test("Promise 13", "1 if the mark USED of page v is set, plus 2 if DIRTY is set.", BoundaryTest::marksAnswer);
        test("Promise 14", "The marks of page v are no longer set.", BoundaryTest::clearMarksClears);
        test("Promise 14", "Answers what marks(v) was before.", BoundaryTest::clearMarksAnswers);
        test("Promise 15", "How many pages show frame f.", BoundaryTest::shownCounts);
        test("Promise 16", "The number of pages whose mark DIRTY is set.", BoundaryTest::dirtyPagesCounts);
        test("Promise 17", "Housekeeping.", BoundaryTest::flushHousekeeps);
        test("Promise 18", "BAD_ARG if v is not 0 to 15, else 0.", BoundaryTest::forgetAnswers);
        test("Promise 19", "BAD_ARG if f is not 0 to 7, else 0.", BoundaryTest::warmAnswers);
    }

    public static void main(String[] args) {
        terms();
        promises1To9();
        promises10To19();
        if (wrong != 0) {
            System.out.println(wrong + " answers are not as due");
            System.exit(1);
        }
    }
}
