/** The promises 31 to 35: what there is. */
final class PromisesOfState {
    private static final Boundary.Call IMAGE = (x, n) -> x.image(n[0]);
    private static final Boundary.Call FROM = (x, n) -> x.from(n[0]);
    private static final Boundary.Call STATUS = (x, n) -> x.status(n[0]);
    private static final Boundary.Call COUNT = (x, n) -> x.count(n[0]);
    private static final int BAD = -2;

    private PromisesOfState() {
    }

    static void all() {
        image();
        from();
        status();
        count();
        digest();
    }

    private static void image() {
        Boundary.part("Promise 31: image");
        Boundary.asks("An IMAGE is kept: 1.", () -> {
            LentAir x = new LentAir();
            for (int image = 0; image < 2; image++) {
                due("from(" + image + "): not yet", x.from(image), -3);
                due("image(" + image + ")", x.image(image), 1);
                due("from(" + image + ")", x.from(image), 1);
                due("image(" + image + ") again", x.image(image), 1);
            }
        });
        Boundary.asks("BAD.", () -> {
            Boundary.edges("image", IMAGE, BAD, 0, 0, 1, 1);
            Boundary.refused("image", IMAGE, BAD, Boundary.BAD, 2);
            Boundary.refusedIn("new", LentAir::new, "image", IMAGE, BAD, Boundary.BAD, 2);
        });
    }

    private static void from() {
        Boundary.part("Promise 32: from");
        Boundary.asks("It goes on from an IMAGE: 1.", () -> {
            LentAir x = Boundary.full();
            x.image(1);
            LentAir y = Boundary.full();
            y.image(1);
            for (int image = 0; image < 2; image++) {
                x.valley(1, 1);
                due("from(" + image + ")", x.from(image), 1);
                due("digest()", x.digest(), y.digest());
            }
            // Its own W and H: a SOUND goes to those beside it as they were then.
            int[][] sides = {{3, 2}, {2, 3}, {1, 6}, {6, 1}, {6, 6}, {2, 2}};
            for (int[] side : sides) {
                for (int[] other : sides) {
                    LentAir a = new LentAir();
                    a.valley(side[0], side[1]);
                    a.maker(5, 1, 0);
                    int far = a.far(0, 2, 0);
                    int farther = a.far(0, 3, 0);
                    a.image(0);
                    a.valley(other[0], other[1]);
                    a.from(0);
                    due("far(0, 2, 0) in " + side[0] + " by " + side[1], a.far(0, 2, 0), far);
                    due("far(0, 3, 0) in " + side[0] + " by " + side[1], a.far(0, 3, 0), farther);
                }
            }
            // An IMAGE of a smaller valley: of the larger one nothing is left.
            LentAir z = new LentAir();
            z.valley(1, 1);
            z.image(0);
            z.valley(6, 6);
            z.put(0, 35, 2);
            z.maker(5, 35, 5);
            z.from(0);
            due("count(0)", z.count(0), 1);
            due("put(0, 1, 0)", z.put(0, 1, 0), -2);
            due("heard(0, 1, 0, 0)", z.heard(0, 1, 0, 0), -2);
        });
        Boundary.asks("BAD;", () -> {
            Boundary.edges("from", FROM, BAD, 0, 0, 1, 1);
            Boundary.refused("from", FROM, BAD, Boundary.BAD, 2);
            Boundary.refusedIn("new", LentAir::new, "from", FROM, BAD, Boundary.BAD, -1);
            Boundary.refusedIn("new", LentAir::new, "from", FROM, BAD, Boundary.BAD, 2);
        });
        Boundary.asks("NO: none was kept.", () -> {
            Boundary.refusedIn("new", LentAir::new, "from", FROM, -3, Boundary.NO, 0);
            Boundary.refusedIn("new", LentAir::new, "from", FROM, -3, Boundary.NO, 1);
            Boundary.refusedIn("full()", Boundary::full, "from", FROM, -3, Boundary.NO, 1);
            LentAir x = new LentAir();
            x.image(1);
            due("from(0)", x.from(0), -3);
            due("from(1)", x.from(1), 1);
            x.image(2);
            x.image(-1);
            due("from(0) behind refused ones", x.from(0), -3);
            Boundary.type(x, "valley 1 1;");
            x.read();
            due("from(0) behind a read", x.from(0), -3);
            due("from(1) behind a read", x.from(1), 1);
            x.valley(1, 1);
            due("from(0) behind a new valley", x.from(0), -3);
        });
    }

    private static void status() {
        Boundary.part("Promise 33: status");
        Boundary.asks("STATUS: BAD (0), NO (1), FULL (2).", () -> {
            LentAir x = new LentAir();
            for (int many = 1; many <= 3; many++) {
                x.type(128);
                due("status(0)", x.status(0), many);
            }
            for (int many = 1; many <= 4; many++) {
                x.undo();
                due("status(1)", x.status(1), many);
            }
            for (int i = 0; i < 6; i++) {
                x.maker(0, 0, 0);
            }
            for (int many = 1; many <= 5; many++) {
                x.maker(0, 0, 0);
                due("status(2)", x.status(2), many);
            }
            due("status(0)", x.status(0), 3);
            due("status(1)", x.status(1), 4);
            due("status(2)", x.status(2), 5);
        });
        Boundary.asks("-1: another what (counts as BAD).", () -> {
            Boundary.edges("status", STATUS, -1, 0, 0, 2, 1);
            Boundary.refused("status", STATUS, -1, Boundary.BAD, 3);
            LentAir x = new LentAir();
            due("status(3)", x.status(3), -1);
            due("status(-1)", x.status(-1), -1);
            due("status(-2)", x.status(-2), -1);
            due("status(0)", x.status(0), 3);
        });
    }

    private static void count() {
        Boundary.part("Promise 34: count");
        Boundary.asks("How many: 0 W, 1 H, 2 MAKERS, 3 LEAVES, 4 that may be undone, 5 bytes of THE TEXT.", () -> {
            counts("a new object", new LentAir(), 5, 5, 0, 0, 0, 0);
            counts("a full one", Boundary.full(), 6, 6, 6, 8, 8, 150);
            counts("some", Boundary.some(), 4, 3, 2, 2, 3, 111);
            LentAir x = Boundary.full();
            x.take(0);
            counts("one taken back: still 8 that may be undone", x, 6, 6, 6, 7, 8, 150);
            x.undo();
            counts("undone", x, 6, 6, 6, 8, 7, 150);
            x.valley(6, 1);
            counts("a new valley", x, 6, 1, 0, 0, 0, 150);
        });
        Boundary.asks("BAD.", () -> {
            Boundary.edges("count", COUNT, BAD, 0, 0, 5, 3);
            Boundary.refused("count", COUNT, BAD, Boundary.BAD, 6);
        });
    }

    private static void counts(String where, LentAir x, int... counts) {
        for (int what = 0; what < counts.length; what++) {
            due("count(" + what + ") of " + where, x.count(what), counts[what]);
        }
    }

    private static void digest() {
        Boundary.part("Promise 35: digest");
        Boundary.asks("h = 829; then h = 31 h + v for each v:", () -> {
            // It wraps around, as a long does: 829 times 31 to the 6 + 75 + 12 is far more than that has room for.
            long h = 829;
            int[] counts = {5, 5, 0, 0, 0, 0};
            for (int v : counts) {
                h = 31 * h + v;
            }
            for (int i = 0; i < 75; i++) {
                h = 31 * h;
            }
            for (int i = 0; i < 6; i++) {
                h = 31 * h + 1;
            }
            for (int i = 0; i < 6; i++) {
                h = 31 * h - 1;
            }
            due("digest() of a new object", new LentAir().digest(), h);
        });
        Boundary.asks("count(0) to count(5); of CELLS GROUND, OWNER, what was told of EARS;", () -> {
            LentAir x = new LentAir();
            x.valley(2, 1);
            x.put(0, 0, 2);
            x.put(1, 0, 5);
            x.ears(0, 1);
            x.put(0, 1, 1);
            x.put(1, 1, 3);
            x.ears(1, 2);
            x.type(127);
            due("digest()", x.digest(), of(2, 1, 0, 0, 0, 1, 2, 5, 1, 1, 3, 2, 1, 1, 1, 1, 1, 1, -1, -1, -1, -1, -1, -1));
            due("digest() of the same", x.digest(), of(2, 1, 0, 0, 0, 1, 2, 5, 1, 1, 3, 2, 1, 1, 1, 1, 1, 1, -1, -1, -1, -1, -1, -1));
            x.valley(1, 2);
            due("digest() of 1 by 2", x.digest(), of(1, 2, 0, 0, 0, 1, 0, 0, 0, 0, 0, 0, 1, 1, 1, 1, 1, 1, -1, -1, -1, -1, -1, -1));
        });
        Boundary.asks("FEES of OWNERS 0 to 5, to whom they let;", () -> {
            LentAir x = new LentAir();
            x.valley(1, 1);
            for (int owner = 0; owner < 6; owner++) {
                x.fee(owner, 99 - owner);
                x.let(owner, owner == 3 ? -1 : (owner + 3) % 6);
            }
            due("digest()", x.digest(), of(1, 1, 0, 0, 0, 0, 0, 0, 0, 99, 98, 97, 96, 95, 94, 3, 4, 5, -1, 1, 2));
        });
        Boundary.asks("of MAKERS KIND, CELL, OWNER, CRY;", () -> {
            LentAir x = new LentAir();
            x.valley(1, 2);
            x.maker(5, 1, 4);
            x.maker(0, 0, 3);
            x.cry(1, 20);
            due("digest()", x.digest(), of(1, 2, 2, 0, 0, 0, 0, 0, 0, 0, 0, 0, 1, 1, 1, 1, 1, 1, -1, -1, -1, -1, -1, -1,
                5, 1, 4, 5, 0, 0, 3, 20));
        });
        Boundary.asks("of LEAVES all five.", () -> {
            LentAir x = new LentAir();
            x.valley(1, 1);
            x.maker(0, 0, 0);
            x.maker(0, 0, 0);
            x.leave(1, 5, 22, 23, 20);
            x.leave(0, 1, 2, 3, 4);
            due("digest()", x.digest(), of(1, 1, 2, 2, 2, 0, 0, 0, 0, 1, 1, 1, 1, 1, 1, -1, -1, -1, -1, -1, -1,
                0, 0, 0, 5, 0, 0, 0, 5, 1, 5, 22, 23, 20, 0, 1, 2, 3, 4));
            x.take(0);
            due("digest() when one is taken back", x.digest(), of(1, 1, 2, 1, 3, 0, 0, 0, 0, 1, 1, 1, 1, 1, 1, -1, -1, -1, -1, -1, -1,
                0, 0, 0, 5, 0, 0, 0, 5, 0, 1, 2, 3, 4));
            // IMAGES, STATUS and the TEXT's bytes are not in it.
            long before = x.digest();
            x.image(0);
            x.take(9);
            due("digest() behind an IMAGE and a refused call", x.digest(), before);
        });
    }

    private static long of(int... values) {
        long h = 829;
        for (int v : values) {
            h = 31 * h + v;
        }
        return h;
    }

    private static void due(String call, long got, long want) {
        Boundary.due(call, got, want);
    }
}
