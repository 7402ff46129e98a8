import java.math.BigInteger;
import java.util.Set;
import java.util.TreeSet;

/** The sentences of "Terms" on THUNDER by a SEED, UNDO, IMAGES, STATUS and what is refused. */
final class TermsOfState {
    private static final Boundary.Call MAKER = (x, n) -> x.maker(n[0], n[1], n[2]);
    private static final Boundary.Call LEAVE = (x, n) -> x.leave(n[0], n[1], n[2], n[3], n[4]);
    private static final Boundary.Call TYPE = (x, n) -> x.type(n[0]);
    private static final Boundary.Call FROM = (x, n) -> x.from(n[0]);
    private static final Boundary.Call MEND = (x, n) -> x.mend(n[0], n[1], n[2]);
    private static final Boundary.Call UNDO = (x, n) -> x.undo();

    private TermsOfState() {
    }

    static void all() {
        thunder();
        undoAndImages();
        refused();
    }

    private static void thunder() {
        Boundary.asks("THUNDER by a SEED (0 .. 999999), n claps (0 .. 60):", () -> {
            LentAir x = new LentAir();
            due("thunder(-1, 1)", x.thunder(-1, 1), -2);
            due("thunder(1000000, 1)", x.thunder(1000000, 1), -2);
            due("thunder(0, -1)", x.thunder(0, -1), -2);
            due("thunder(0, 61)", x.thunder(0, 61), -2);
            for (int seed : new int[] {0, 999999}) {
                for (int n : new int[] {0, 1, 2, 60}) {
                    due("thunder(" + seed + ", " + n + ")", x.thunder(seed, n), claps(seed, n, 5, 5));
                }
            }
            due("thunder(7, 0): none", x.thunder(7, 0), 0);
        });
        Boundary.asks("X is SEED at first; for each X becomes X times 1103515245 and 12345, by 2147483648 what is left over;", () -> {
            LentAir x = new LentAir();
            // X goes far beyond 2147483648 and is cut back, never below 0.
            for (int seed : new int[] {0, 1, 2, 3, 12345, 65535, 65536, 500000, 999998, 999999}) {
                for (int n = 1; n <= 4; n++) {
                    due("thunder(" + seed + ", " + n + ")", x.thunder(seed, n), claps(seed, n, 5, 5));
                }
            }
        });
        Boundary.asks("X by 65536 (cut), by W times H left over, is its CELL;", () -> {
            // The SEED 1 makes X 1103527590: 16838 by 36 leaves 26, by 6 leaves 2, by 1 leaves 0; it is 1 so LOUD.
            for (int w = 1; w <= 6; w++) {
                for (int h = 1; h <= 6; h++) {
                    LentAir x = new LentAir();
                    x.valley(w, h);
                    due("thunder(1, 1) in " + w + " by " + h, x.thunder(1, 1), 1);
                    for (int seed : new int[] {0, 4, 5, 6}) {
                        due("thunder(" + seed + ", 1) in " + w + " by " + h, x.thunder(seed, 1), claps(seed, 1, w, h));
                    }
                }
            }
        });
        Boundary.asks("by 4096 (cut), by 9 left over, and 1, how LOUD:", () -> {
            // In a row from CELL to end: 12345 by 4096 is 3, 4 so LOUD, from CELL 0.
            LentAir x = new LentAir();
            x.valley(6, 1);
            due("thunder(0, 1)", x.thunder(0, 1), 4);
            x.valley(3, 1);
            due("thunder(0, 1) in 3 CELLS", x.thunder(0, 1), 3);
            boolean[] had = new boolean[10];
            x.valley(6, 6);
            for (int seed = 0; seed < 60; seed++) {
                long first = (seed * 1103515245L + 12345) % 2147483648L;
                int loud = (int) (first / 4096 % 9 + 1);
                if (!had[loud]) {
                    had[loud] = true;
                    due("thunder(" + seed + ", 1), " + loud + " so LOUD", x.thunder(seed, 1), claps(seed, 1, 6, 6));
                }
            }
            for (int loud = 1; loud <= 9; loud++) {
                due("one was " + loud + " so LOUD", had[loud] ? 1 : 0, 1);
            }
        });
        Boundary.asks("CELLS in which some is heard (no ECHOES): how many.", () -> {
            LentAir x = new LentAir();
            x.valley(6, 6);
            due("thunder(1, 1)", x.thunder(1, 1), 1);
            due("thunder(1, 2): CELLS of both, once each", x.thunder(1, 2), claps(1, 2, 6, 6));
            due("thunder(7, 60): all", x.thunder(7, 60), 36);
            // Whatever GROUND and AIR: no HEDGE ends it, no CLIFF gives it back, no LEAVE is needed.
            for (int cell = 0; cell < 36; cell++) {
                x.put(0, cell, 2);
                x.put(1, cell, cell % 6);
            }
            for (int seed = 0; seed < 9; seed++) {
                due("thunder(" + seed + ", 1) over CLIFFS", x.thunder(seed, 1), claps(seed, 1, 6, 6));
            }
            for (int cell = 0; cell < 36; cell++) {
                x.put(0, cell, 1);
            }
            for (int seed = 0; seed < 9; seed++) {
                due("thunder(" + seed + ", 1) over HEDGES", x.thunder(seed, 1), claps(seed, 1, 6, 6));
            }
        });
    }

    static int claps(int seed, int n, int w, int h) {
        BigInteger x = BigInteger.valueOf(seed);
        Set<Integer> some = new TreeSet<>();
        for (int i = 0; i < n; i++) {
            x = x.multiply(new BigInteger("1103515245")).add(new BigInteger("12345")).mod(new BigInteger("2147483648"));
            int at = x.divide(new BigInteger("65536")).mod(BigInteger.valueOf((long) w * h)).intValueExact();
            int loud = x.divide(new BigInteger("4096")).mod(BigInteger.valueOf(9)).intValueExact() + 1;
            for (int cell = 0; cell < w * h; cell++) {
                if (Math.abs(cell % w - at % w) + Math.abs(cell / w - at / w) < loud) {
                    some.add(cell);
                }
            }
        }
        return some.size();
    }

    private static void undoAndImages() {
        Boundary.asks("UNDO: LEAVES as ahead of the last LEAVE that was given, or taken (8 at most).", () -> {
            LentAir x = new LentAir();
            due("undo() of a new object", x.undo(), -3);
            x.maker(0, 0, 0);
            x.leave(0, 1, 2, 3, 4);
            due("undo() of a LEAVE given", x.undo(), 0);
            due("about(0, 0): it is gone", x.about(0, 0), -2);
            due("undo(): an undo is none that may be undone", x.undo(), -3);
            // 5 given, 4 taken: of the 9 the first one may be undone no more.
            for (int i = 0; i < 5; i++) {
                x.leave(0, i, 0, 23, 1 + i);
                due("count(4)", x.count(4), i + 1);
            }
            for (int i = 0; i < 4; i++) {
                x.take(1);
                due("count(4)", x.count(4), Math.min(8, 6 + i));
            }
            int[] left = {2, 3, 4, 5, 4, 3, 2, 1};
            for (int i = 0; i < 8; i++) {
                due("undo() number " + (i + 1), x.undo(), left[i]);
                due("count(4)", x.count(4), 7 - i);
                for (int leave = 0; leave < left[i]; leave++) {
                    int owner = i < 3 && leave > 0 ? leave + 3 - i : leave;
                    due("about(" + leave + ", 1)", x.about(leave, 1), owner);
                    due("about(" + leave + ", 4)", x.about(leave, 4), 1 + owner);
                }
            }
            due("undo() number 9", x.undo(), -3);
            due("count(3): the first one stays", x.count(3), 1);
            // Calls that are refused give and take none; what is no LEAVE is not undone.
            x.leave(0, 0, 1, 0, 1);
            x.take(1);
            due("count(4)", x.count(4), 0);
            x.leave(0, 2, 0, 0, 9);
            x.fee(0, 50);
            x.put(0, 3, 2);
            x.ears(3, 2);
            x.cry(0, 9);
            x.let(0, 3);
            x.maker(1, 1, 1);
            due("undo()", x.undo(), 1);
            due("fee(0, 0)", x.fee(0, 0), 50);
            due("put(0, 3, 0)", x.put(0, 3, 0), 2);
            due("ears(3, 0)", x.ears(3, 0), 2);
            due("cry(0, 0)", x.cry(0, 0), 9);
            due("let(0, -1)", x.let(0, -1), 3);
            due("count(2)", x.count(2), 2);
        });
        Boundary.asks("IMAGES 0, 1 keep all but them, THE TEXT and STATUS; what may be undone they keep; it goes on from one.", () -> {
            for (int image = 0; image < 2; image++) {
                LentAir x = Boundary.some();
                LentAir y = Boundary.some();
                x.image(image);
                y.image(image);
                changeAll(x);
                int bad = x.status(0);
                due("from(" + image + ")", x.from(image), 1);
                due("count(5): THE TEXT is as now", x.count(5), 3);
                due("status(0): STATUS is as now", x.status(0), bad);
                due("status(2): STATUS is as now", x.status(2), 1);
                x.clear();
                y.clear();
                due("digest(): all else is as it was kept", x.digest(), y.digest());
                // The IMAGE stays as it is: what is changed behind it, or undone, is not changed in it.
                changeAll(x);
                x.from(image);
                x.clear();
                due("digest() from it again", x.digest(), y.digest());
                Boundary.alike("from(" + image + ")", x, y);
                due("image(-1)", x.image(-1), -2);
                due("image(2)", x.image(2), -2);
            }
            // A new IMAGE takes an older one's place; the two are not the same.
            LentAir z = new LentAir();
            z.fee(0, 10);
            z.image(0);
            z.fee(0, 20);
            z.image(1);
            z.fee(0, 30);
            z.from(0);
            due("fee(0, 40) of IMAGE 0", z.fee(0, 40), 10);
            z.image(0);
            z.from(1);
            due("fee(0, 50) of IMAGE 1", z.fee(0, 50), 20);
            z.from(0);
            due("fee(0, 60) of IMAGE 0, kept again", z.fee(0, 60), 40);
            LentAir none = new LentAir();
            none.image(1);
            due("from(0): none was kept", none.from(0), -3);
        });
    }

    /** Of all that an IMAGE keeps nothing stays as it is; THE TEXT has 3 bytes then, of BAD and FULL there is one more. */
    private static void changeAll(LentAir x) {
        x.undo();
        x.undo();
        x.put(0, 1, 1);
        x.put(1, 2, 5);
        x.ears(3, 2);
        x.fee(5, 77);
        x.let(0, 5);
        x.cry(0, 1);
        x.maker(2, 2, 2);
        x.leave(2, 2, 2, 2, 2);
        x.take(0);
        x.valley(2, 6);
        x.maker(3, 3, 3);
        for (int i = 0; i < 9; i++) {
            x.leave(0, 3, 3, 3, 3);
        }
        Boundary.type(x, "abc");
        x.take(99);
    }

    private static void refused() {
        Boundary.asks("STATUS: how many calls were refused as BAD, NO, FULL (each answer told so below is such a one).", () -> {
            LentAir x = new LentAir();
            status(x, 0, 0, 0);
            x.valley(0, 0);
            status(x, 1, 0, 0);
            x.undo();
            x.from(0);
            status(x, 1, 2, 0);
            for (int i = 0; i < 8; i++) {
                x.maker(0, 0, 0);
            }
            status(x, 1, 2, 2);
            for (int i = 0; i < 9; i++) {
                x.leave(0, 0, 0, 0, 1);
            }
            status(x, 1, 2, 3);
            for (int i = 0; i < 151; i++) {
                x.type(32);
            }
            status(x, 1, 2, 4);
            x.from(2);
            status(x, 2, 2, 4);
            // What is NONE, not so many, 0, or a FAULT is no refusal.
            x.criers(0, 0, 0, 1);
            x.still(1, 0, 0);
            x.let(0, 1);
            x.let(1, 0);
            x.liable(0);
            x.first(0, 1, 0, 24);
            x.ears(24, 1);
            x.buy(0, 1, 0, 0);
            x.buy(0, 1, 0, 1);
            x.trespass(0, 1, 0, 9);
            x.carried(0, 1, 0, 9);
            x.who(0, 999);
            x.read();
            x.let(0, -1);
            status(x, 2, 2, 4);
            // To ask for STATUS counts for nothing; each one has its own count.
            status(x, 2, 2, 4);
        });
        Boundary.asks("Refused, changing nothing but STATUS, the first of: BAD -2 a number is not as told; NO -3 as told; FULL -4", () -> {
            inFull("maker", MAKER, -4, Boundary.FULL, 0, 0, 0);
            inFull("leave", LEAVE, -4, Boundary.FULL, 0, 0, 0, 0, 1);
            inFull("type", TYPE, -4, Boundary.FULL, 59);
            inFull("from", FROM, -3, Boundary.NO, 1);
            inFull("mend", MEND, -20, Boundary.NO, 0, 1, 0);
            Boundary.refusedIn("new", LentAir::new, "undo", UNDO, -3, Boundary.NO);
            // BAD is ahead of FULL, and of NO.
            inFull("maker", MAKER, -2, Boundary.BAD, 6, 0, 0);
            inFull("leave", LEAVE, -2, Boundary.BAD, 0, 0, 0, 0, 21);
            inFull("type", TYPE, -2, Boundary.BAD, 128);
            inFull("from", FROM, -2, Boundary.BAD, 2);
            inFull("mend", MEND, -10, Boundary.BAD, 0, 0, 0);
        });
        Boundary.asks("(where others are told they count as these).", () -> {
            LentAir x = Boundary.full();
            status(x, 0, 0, 1);
            due("trespass(6, 1, 0, 0)", x.trespass(6, 1, 0, 0), -10);
            due("carried(6, 1, 0, 0)", x.carried(6, 1, 0, 0), -10);
            due("buy(6, 1, 0, 0)", x.buy(6, 1, 0, 0), -10);
            due("who(24, 0)", x.who(24, 0), -10);
            due("mend(6, 1, 0)", x.mend(6, 1, 0), -10);
            status(x, 5, 0, 1);
            due("mend(0, 1, 0)", x.mend(0, 1, 0), -20);
            status(x, 5, 1, 1);
            due("status(3)", x.status(3), -1);
            status(x, 6, 1, 1);
        });
        Boundary.says("Ahead of the calls `valley`, `put`, `fee`, `maker`, `leave`, `take`, `undo`, `about`, `type`, `clear`, `read`"
            + " the interface says: ---- a valley.");
        Boundary.says("Ahead of the calls `heard`, `far`, `cost`, `trespass`, `carried`, `mend` the interface says: ---- sounds.");
        Boundary.says("Ahead of the calls `ears`, `buy`, `who`, `still`, `cry`, `criers` the interface says: ---- leaves, ears.");
        Boundary.says("Ahead of the calls `let`, `liable`, `rings`, `first`, `peal`, `thunder` the interface says: ---- lets, hours, thunder.");
        Boundary.says("Ahead of the calls `image`, `from`, `status`, `count`, `digest` the interface says: ---- what there is.");
    }

    private static void inFull(String name, Boundary.Call call, long answer, int reason, int... numbers) {
        Boundary.refusedIn("full()", Boundary::full, name, call, answer, reason, numbers);
    }

    private static void status(LentAir x, int bad, int no, int full) {
        due("status(0)", x.status(0), bad);
        due("status(1)", x.status(1), no);
        due("status(2)", x.status(2), full);
    }

    private static void due(String call, long got, long want) {
        Boundary.due(call, got, want);
    }
}
