import java.util.HashMap;
import java.util.Map;
import java.util.TreeMap;

/**
 * Long runs of calls, compared with a model that is written another way: pages are records in a map,
 * and what a call is refused for is found before the call is carried out.
 * A second object gets the same calls with housekeeping between them, and must answer the same.
 */
public final class ModelTest {
    private static final int RUNS = 4000;
    // The document promises nothing after the 512th call; half of them are left for housekeeping.
    private static final int CALLS = 256;

    private static final class Page {
        final int frame;
        boolean writable;
        boolean used;
        boolean dirty;

        Page(int frame, boolean writable) {
            this.frame = frame;
            this.writable = writable;
        }

        int marks() {
            return (used ? 1 : 0) + (dirty ? 2 : 0);
        }
    }

    private static final class Model {
        final Map<Integer, Page> pages = new TreeMap<>();
        final Map<String, Integer> words = new HashMap<>();
        int fault = 0;

        int read(int f, int w) {
            return words.getOrDefault(f + "." + w, 0);
        }

        void write(int f, int w, int x) {
            words.put(f + "." + w, x);
        }

        int frameOrUnmapped(Page p) {
            return p == null ? -2 : p.frame;
        }

        int access(int kind, int v, int w, int x) {
            Page p = pages.get(v);
            boolean writes = kind != 5;
            if (v < 0 || v > 15 || w < 0 || w > 7) {
                fault = -1;
            } else if (p == null) {
                fault = -2;
            } else if (writes && !p.writable) {
                fault = -3;
            } else {
                fault = 0;
            }
            if (fault != 0) {
                return kind == 6 ? fault : 0;
            }
            int old = read(p.frame, w);
            p.used = true;
            if (writes) {
                p.dirty = true;
                write(p.frame, w, x);
            }
            return kind == 6 ? 0 : old;
        }

        int copy(int f, int g) {
            int changed = 0;
            for (int w = 0; w < 8; w++) {
                changed += read(f, w) == read(g, w) ? 0 : 1;
                write(f, w, read(g, w));
            }
            return changed;
        }

        int onPage(int kind, int v, int b, int c) {
            if (v < 0 || v > 15 || (kind == 1 && (b < 0 || b > 7))) {
                return -1;
            }
            Page p = pages.get(v);
            switch (kind) {
                case 1:
                    return frameOrUnmapped(pages.put(v, new Page(b, c != 0)));
                case 2:
                    return frameOrUnmapped(pages.remove(v));
                case 3:
                    return frameOrUnmapped(p);
                case 4:
                    if (p == null) {
                        return -2;
                    }
                    int was = p.writable ? 1 : 0;
                    p.writable = b != 0;
                    return was;
                case 12:
                    return p == null ? 0 : p.marks();
                case 13:
                    int before = p == null ? 0 : p.marks();
                    if (p != null) {
                        p.used = false;
                        p.dirty = false;
                    }
                    return before;
                default:
                    return 0;
            }
        }

        int onFrame(int kind, int f, int b, int c) {
            boolean two = kind == 9 || kind == 10 || kind == 11;
            if (f < 0 || f > 7 || (two && (b < 0 || b > 7))) {
                return kind == 9 ? 0 : -1;
            }
            switch (kind) {
                case 9:
                    return read(f, b);
                case 10:
                    write(f, b, c);
                    return 0;
                case 11:
                    return copy(f, b);
                case 14:
                    return (int) pages.values().stream().filter(p -> p.frame == f).count();
                default:
                    return 0;
            }
        }

        int call(int kind, int a, int b, int c) {
            switch (kind) {
                case 5: case 6: case 7:
                    return access(kind, a, b, c);
                case 8:
                    return fault;
                case 9: case 10: case 11: case 14: case 18:
                    return onFrame(kind, a, b, c);
                case 15:
                    return (int) pages.values().stream().filter(p -> p.dirty).count();
                case 16:
                    return 0;
                default:
                    return onPage(kind, a, b, c);
            }
        }
    }

    private static int call(VipCache x, int kind, int a, int b, int c) {
        switch (kind) {
            case 1: return x.map(a, b, c);
            case 2: return x.unmap(a);
            case 3: return x.frameOf(a);
            case 4: return x.allow(a, b);
            case 5: return x.load(a, b);
            case 6: return x.store(a, b, c);
            case 7: return x.trade(a, b, c);
            case 8: return x.fault();
            case 9: return x.word(a, b);
            case 10: return x.setWord(a, b, c);
            case 11: return x.copyFrame(a, b);
            case 12: return x.marks(a);
            case 13: return x.clearMarks(a);
            case 14: return x.shown(a);
            case 15: return x.dirtyPages();
            case 16: x.flush(); return 0;
            case 17: return x.forget(a);
            default: return x.warm(a);
        }
    }

    // A fixed sequence of numbers, so that a failing run comes again.
    private static long seed = 20261115L;

    private static int next(int bound) {
        seed = seed * 6364136223846793005L + 1442695040888963407L;
        return (int) ((seed >>> 33) % bound);
    }

    private static int anyKind() {
        // The calls that change pages and words come more often, that there be something to see.
        int[] kinds = {1, 1, 2, 3, 4, 4, 5, 5, 6, 6, 6, 7, 7, 8, 8, 9, 10, 11, 12, 12, 13, 14, 15, 16, 17, 18};
        return kinds[next(kinds.length)];
    }

    private static int upTo(int limit, int near) {
        int odd = next(40);
        if (odd == 0) {
            return -1 - next(3);
        }
        if (odd == 1) {
            return limit + next(3);
        }
        if (odd == 2) {
            return next(2) == 0 ? Integer.MIN_VALUE : Integer.MAX_VALUE;
        }
        return next(near);
    }

    private static boolean takesFrame(int kind) {
        return kind == 9 || kind == 10 || kind == 11 || kind == 14 || kind == 18;
    }

    private static int housekeep(VipCache x) {
        switch (next(3)) {
            case 0: return call(x, 16, 0, 0, 0);
            case 1: return x.forget(next(16));
            default: return x.warm(next(8));
        }
    }

    /** Answers whether the run went as due; prints its first wrong call if not. */
    private static boolean run(int number) {
        VipCache x = new VipCache();
        VipCache kept = new VipCache();
        Model model = new Model();
        // Runs on few pages and frames meet aliases more often; others go over the whole memory.
        int pages = 1 << (1 + next(4));
        int frames = 1 << next(4);
        for (int i = 0; i < CALLS; i++) {
            int kind = anyKind();
            int a = takesFrame(kind) ? upTo(8, frames) : upTo(16, pages);
            int b = kind == 4 ? next(2) * (next(9) - 4) : upTo(8, kind == 1 || kind == 11 ? frames : 8);
            int c = kind == 1 ? next(3) * (next(9) - 4) : next(7) - 3;
            int want = model.call(kind, a, b, c);
            int got = call(x, kind, a, b, c);
            int cleaned = housekeep(kept);
            int gotKept = call(kept, kind, a, b, c);
            if (got != want || gotKept != want || cleaned != 0) {
                System.out.println("run " + number + ", call " + i + ": kind " + kind + " (" + a + ", " + b + ", " + c
                    + ") answered " + got + " and, with housekeeping, " + gotKept + ", due is " + want);
                return false;
            }
        }
        return true;
    }

    public static void main(String[] args) {
        int wrong = 0;
        for (int i = 0; i < RUNS; i++) {
            if (!run(i)) {
                wrong++;
            }
            if (wrong == 10) {
                break;
            }
        }
        if (wrong != 0) {
            System.exit(1);
        }
    }
}
