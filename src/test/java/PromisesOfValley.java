/** The promises 1 to 12: a valley. */
final class PromisesOfValley {
    private static final Boundary.Call VALLEY = (x, n) -> x.valley(n[0], n[1]);
    private static final Boundary.Call PUT = (x, n) -> x.put(n[0], n[1], n[2]);
    private static final Boundary.Call FEE = (x, n) -> x.fee(n[0], n[1]);
    private static final Boundary.Call MAKER = (x, n) -> x.maker(n[0], n[1], n[2]);
    private static final Boundary.Call LEAVE = (x, n) -> x.leave(n[0], n[1], n[2], n[3], n[4]);
    private static final Boundary.Call TAKE = (x, n) -> x.take(n[0]);
    private static final Boundary.Call UNDO = (x, n) -> x.undo();
    private static final Boundary.Call ABOUT = (x, n) -> x.about(n[0], n[1]);
    private static final Boundary.Call TYPE = (x, n) -> x.type(n[0]);
    private static final int BAD = -2;

    private PromisesOfValley() {
    }

    static void all() {
        newObject();
        valley();
        put();
        fee();
        maker();
        leave();
        take();
        undo();
        about();
        type();
        clear();
        read();
    }

    private static void newObject() {
        Boundary.part("Promise 1: A new object");
        Boundary.asks("As told; no MAKERS.", () -> {
            LentAir x = new LentAir();
            int[] counts = {5, 5, 0, 0, 0, 0};
            for (int what = 0; what < counts.length; what++) {
                due("count(" + what + ")", x.count(what), counts[what]);
            }
            for (int reason = 0; reason < 3; reason++) {
                due("status(" + reason + ")", x.status(reason), 0);
            }
            for (int cell = 0; cell < 25; cell++) {
                due("put(0, " + cell + ", 0)", x.put(0, cell, 0), 0);
                due("put(1, " + cell + ", 0)", x.put(1, cell, 0), 0);
                due("ears(" + cell + ", 0)", x.ears(cell, 0), 0);
            }
            for (int owner = 0; owner < 6; owner++) {
                due("fee(" + owner + ", 1)", x.fee(owner, 1), 1);
                due("let(" + owner + ", -1)", x.let(owner, -1), -1);
                due("liable(" + owner + ")", x.liable(owner), owner);
            }
            due("rings()", x.rings(), 0);
            due("who(0, -1)", x.who(0, -1), 0);
            due("still(20, 0, 24)", x.still(20, 0, 24), 0);
            due("heard(0, 1, 0, 0)", x.heard(0, 1, 0, 0), -2);
            due("about(0, 0)", x.about(0, 0), -2);
            due("take(0)", x.take(0), -2);
            due("undo()", x.undo(), -3);
            due("from(0)", x.from(0), -3);
            due("from(1)", x.from(1), -3);
            due("clear()", x.clear(), 0);
            due("read()", x.read(), -10);
            // Two new objects have nothing of one another.
            LentAir y = new LentAir();
            x.maker(0, 0, 0);
            x.type(59);
            due("count(2) of another one", y.count(2), 0);
            due("count(5) of another one", y.count(5), 0);
            due("status(0) of another one", y.status(0), 0);
        });
    }

    private static void valley() {
        Boundary.part("Promise 2: valley");
        Boundary.asks("W by H CELLS, all as at first (but for IMAGES, THE TEXT, STATUS): 1.", () -> {
            LentAir x = Boundary.full();
            for (int i = 0; i < 6; i++) {
                x.ears(i, 1 + i % 2);
                x.let(i, 5 - i);
                x.fee(i, 99);
                x.cry(i, 0);
            }
            x.image(1);
            long image = x.digest();
            due("valley(6, 6)", x.valley(6, 6), 1);
            due("count(5): THE TEXT stays", x.count(5), 150);
            due("status(2): STATUS stays", x.status(2), 1);
            due("undo(): nothing to undo", x.undo(), -3);
            due("from(1): the IMAGE stays", x.from(1), 1);
            due("digest() of it", x.digest(), image);
            x.valley(6, 6);
            x.clear();
            LentAir y = new LentAir();
            y.valley(6, 6);
            due("digest(): all else as at first", x.digest(), y.digest());
            due("maker(): the first one again", x.maker(0, 35, 0), 0);
            due("cry(0, 0): as at first", x.cry(0, 0), 5);
            due("leave(): the first one again", x.leave(0, 0, 0, 0, 1), 0);
            due("valley(5, 5)", x.valley(5, 5), 1);
            due("digest() as of a new object", x.digest(), new LentAir().digest());
        });
        Boundary.asks("BAD.", () -> {
            Boundary.edges("valley", VALLEY, BAD, 0, 1, 6, 3, 3);
            Boundary.edges("valley", VALLEY, BAD, 1, 1, 6, 3, 3);
            Boundary.refused("valley", VALLEY, BAD, Boundary.BAD, 0, 7);
            Boundary.refused("valley", VALLEY, BAD, Boundary.BAD, 7, 0);
            Boundary.refused("valley", VALLEY, BAD, Boundary.BAD, -1, -6);
            Boundary.refused("valley", VALLEY, BAD, Boundary.BAD, 1 << 30, 4);
        });
    }

    private static void put() {
        Boundary.part("Promise 3: put");
        Boundary.asks("GROUND (0), OWNER (1) of a CELL: what it was.", () -> {
            LentAir x = new LentAir();
            for (int cell : new int[] {0, 4, 20, 24}) {
                int[] grounds = {2, 1, 0, 2, 0, 1, 1, 0};
                int was = 0;
                for (int ground : grounds) {
                    due("put(0, " + cell + ", " + ground + ")", x.put(0, cell, ground), was);
                    was = ground;
                }
                was = 0;
                for (int owner : new int[] {5, 4, 3, 2, 1, 0, 0, 5, 5}) {
                    due("put(1, " + cell + ", " + owner + ")", x.put(1, cell, owner), was);
                    was = owner;
                }
                due("put(0, " + cell + ", 0): the GROUND is another thing", x.put(0, cell, 0), 0);
            }
            due("put(1, 1, 0): the CELL beside it is another one", x.put(1, 1, 0), 0);
        });
        Boundary.asks("BAD.", () -> {
            Boundary.edges("put", PUT, BAD, 0, 0, 1, 0, 5, 1);
            Boundary.edges("put", PUT, BAD, 1, 0, 11, 0, 5, 1);
            Boundary.edges("put", PUT, BAD, 1, 0, 11, 1, 5, 1);
            Boundary.edges("put", PUT, BAD, 2, 0, 2, 0, 5, 1);
            Boundary.edges("put", PUT, BAD, 2, 0, 5, 1, 5, 1);
            Boundary.refused("put", PUT, BAD, Boundary.BAD, 0, 36, 0);
            Boundary.refused("put", PUT, BAD, Boundary.BAD, 1, 64, 0);
            Boundary.refused("put", PUT, BAD, Boundary.BAD, 0, 5, 5);
        });
    }

    private static void fee() {
        Boundary.part("Promise 4: fee");
        Boundary.asks("FEE of an OWNER: what it was.", () -> {
            LentAir x = new LentAir();
            int was = 1;
            for (int n : new int[] {99, 0, 0, 98, 1}) {
                due("fee(0, " + n + ")", x.fee(0, n), was);
                due("fee(5, " + n + ")", x.fee(5, n), was);
                was = n;
            }
            due("fee(1, 1): of another one", x.fee(1, 1), 1);
        });
        Boundary.asks("BAD.", () -> {
            Boundary.edges("fee", FEE, BAD, 0, 0, 5, 2, 40);
            Boundary.edges("fee", FEE, BAD, 1, 0, 99, 2, 40);
        });
    }

    private static void maker() {
        Boundary.part("Promise 5: maker");
        Boundary.asks("A MAKER: the number.", () -> {
            LentAir x = new LentAir();
            for (int i = 0; i < 6; i++) {
                due("maker() number " + i, x.maker(5 - i, i, i), i);
                due("count(2)", x.count(2), i + 1);
            }
            due("heard() in the first one's CELL", x.heard(0, 7, 0, 0), 7);
            due("heard() in the last one's CELL", x.heard(5, 7, 0, 5), 7);
        });
        Boundary.asks("BAD;", () -> {
            Boundary.edges("maker", MAKER, BAD, 0, 0, 5, 3, 5, 3);
            Boundary.edges("maker", MAKER, BAD, 1, 0, 11, 3, 5, 3);
            Boundary.edges("maker", MAKER, BAD, 2, 0, 5, 3, 5, 3);
            Boundary.refused("maker", MAKER, BAD, Boundary.BAD, 6, 5, 3);
            Boundary.refused("maker", MAKER, BAD, Boundary.BAD, 3, 36, 3);
            Boundary.refused("maker", MAKER, BAD, Boundary.BAD, 3, 5, 6);
        });
        Boundary.asks("FULL: 6.", () -> {
            LentAir x = new LentAir();
            for (int i = 0; i < 6; i++) {
                x.maker(0, 0, 0);
                due("status(2) with " + (i + 1), x.status(2), 0);
            }
            due("maker() number 7", x.maker(0, 0, 0), -4);
            due("maker() number 8", x.maker(5, 24, 5), -4);
            due("status(2)", x.status(2), 2);
            due("count(2)", x.count(2), 6);
            x.image(0);
            x.valley(1, 1);
            due("maker() of a new valley", x.maker(0, 0, 0), 0);
            x.from(0);
            due("maker() of the IMAGE", x.maker(0, 0, 0), -4);
            Boundary.refusedIn("full()", Boundary::full, "maker", MAKER, -4, Boundary.FULL, 0, 0, 0);
            Boundary.refusedIn("full()", Boundary::full, "maker", MAKER, -4, Boundary.FULL, 5, 35, 5);
        });
    }

    private static void leave() {
        Boundary.part("Promise 6: leave");
        Boundary.asks("A LEAVE: its number.", () -> {
            LentAir x = new LentAir();
            x.maker(0, 0, 0);
            for (int i = 0; i < 8; i++) {
                due("leave() number " + i, x.leave(0, 0, 0, 0, 1), i);
                due("count(3)", x.count(3), i + 1);
            }
            x.take(3);
            x.take(3);
            due("leave() behind the 6 that are left", x.leave(0, 5, 23, 23, 20), 6);
            due("about(6, 4)", x.about(6, 4), 20);
        });
        Boundary.asks("BAD;", () -> {
            Boundary.edges("leave", LEAVE, BAD, 0, 0, 1, 1, 3, 5, 9, 7);
            Boundary.edges("leave", LEAVE, BAD, 1, 0, 5, 1, 3, 5, 9, 7);
            Boundary.edges("leave", LEAVE, BAD, 2, 0, 9, 1, 3, 5, 9, 7);
            Boundary.edges("leave", LEAVE, BAD, 2, 0, 23, 1, 3, 5, 23, 7);
            Boundary.edges("leave", LEAVE, BAD, 3, 5, 23, 1, 3, 5, 9, 7);
            Boundary.edges("leave", LEAVE, BAD, 3, 0, 23, 1, 3, 0, 9, 7);
            Boundary.edges("leave", LEAVE, BAD, 4, 1, 20, 1, 3, 5, 9, 7);
            Boundary.refused("leave", LEAVE, BAD, Boundary.BAD, 6, 3, 5, 9, 7);
            Boundary.refused("leave", LEAVE, BAD, Boundary.BAD, 0, 6, 5, 9, 7);
            Boundary.refused("leave", LEAVE, BAD, Boundary.BAD, 0, 3, 24, 24, 7);
            Boundary.refused("leave", LEAVE, BAD, Boundary.BAD, 0, 3, 23, 0, 7);
            Boundary.refused("leave", LEAVE, BAD, Boundary.BAD, 0, 3, 5, 9, 21);
            Boundary.refusedIn("new", LentAir::new, "leave", LEAVE, BAD, Boundary.BAD, 0, 0, 0, 0, 1);
        });
        Boundary.asks("FULL: 8.", () -> {
            LentAir x = new LentAir();
            x.maker(0, 0, 0);
            for (int i = 0; i < 8; i++) {
                x.leave(0, 0, 0, 0, 1);
                due("status(2) with " + (i + 1), x.status(2), 0);
            }
            due("leave() number 9", x.leave(0, 0, 0, 0, 1), -4);
            due("status(2)", x.status(2), 1);
            due("count(3)", x.count(3), 8);
            due("count(4)", x.count(4), 8);
            x.take(0);
            due("leave() where one was taken back", x.leave(0, 0, 0, 0, 1), 7);
            due("leave() number 9", x.leave(0, 0, 0, 0, 1), -4);
            x.undo();
            due("leave() where one was undone", x.leave(0, 0, 0, 0, 1), 7);
            due("leave() number 9", x.leave(0, 0, 0, 0, 1), -4);
            Boundary.refusedIn("full()", Boundary::full, "leave", LEAVE, -4, Boundary.FULL, 0, 0, 0, 0, 1);
            Boundary.refusedIn("full()", Boundary::full, "leave", LEAVE, -4, Boundary.FULL, 5, 5, 23, 23, 20);
        });
    }

    private static void take() {
        Boundary.part("Promise 7: take");
        Boundary.asks("A LEAVE is taken back (others close up): how many are left.", () -> {
            // The first one, the last one, one between, the only one.
            owners("all", leaves(8), 0, 1, 2, 3, 4, 5, 0, 1);
            owners("the first one", takenFrom(8, 0), 1, 2, 3, 4, 5, 0, 1);
            owners("the last one", takenFrom(8, 7), 0, 1, 2, 3, 4, 5, 0);
            owners("one between", takenFrom(8, 4), 0, 1, 2, 3, 5, 0, 1);
            owners("the only one", takenFrom(1, 0));
            LentAir x = leaves(8);
            for (int left = 7; left >= 0; left--) {
                due("take(0)", x.take(0), left);
            }
            due("take(0) of none", x.take(0), -2);
        });
        Boundary.asks("BAD.", () -> {
            Boundary.edges("take", TAKE, BAD, 0, 0, 1, 1);
            Boundary.refused("take", TAKE, BAD, Boundary.BAD, 8);
            Boundary.refusedIn("new", LentAir::new, "take", TAKE, BAD, Boundary.BAD, 0);
        });
    }

    private static LentAir leaves(int many) {
        LentAir x = new LentAir();
        x.maker(0, 0, 0);
        for (int i = 0; i < many; i++) {
            x.leave(0, i % 6, i, 23 - i, 1 + i);
        }
        return x;
    }

    private static LentAir takenFrom(int many, int leave) {
        LentAir x = leaves(many);
        due("take(" + leave + ") of " + many, x.take(leave), many - 1);
        return x;
    }

    /** The OWNERS of LEAVES as leaves() gave them, in the order that is left. */
    private static void owners(String where, LentAir x, int... owners) {
        due("count(3): " + where, x.count(3), owners.length);
        for (int i = 0; i < owners.length; i++) {
            due("about(" + i + ", 1): " + where, x.about(i, 1), owners[i]);
            int from = x.about(i, 2);
            due("from % 6: " + where, from % 6, owners[i]);
            due("about(" + i + ", 3): " + where, x.about(i, 3), 23 - from);
            due("about(" + i + ", 4): " + where, x.about(i, 4), 1 + from);
        }
        due("about(" + owners.length + ", 0): " + where, x.about(owners.length, 0), -2);
    }

    private static void undo() {
        Boundary.part("Promise 8: undo");
        Boundary.asks("UNDO: how many LEAVES there are then.", () -> {
            LentAir x = takenFrom(8, 4);
            due("undo() of the take", x.undo(), 8);
            owners("all again", x, 0, 1, 2, 3, 4, 5, 0, 1);
            // The take was the 9th: the first LEAVE that was given is not undone.
            for (int left = 7; left > 0; left--) {
                due("undo() of a LEAVE", x.undo(), left);
            }
            due("undo() number 9", x.undo(), -3);
            owners("the first one", x, 0);
            LentAir y = leaves(1);
            due("undo() of the only one", y.undo(), 0);
        });
        Boundary.asks("NO: none may be.", () -> {
            Boundary.refusedIn("new", LentAir::new, "undo", UNDO, -3, Boundary.NO);
            LentAir x = leaves(2);
            x.undo();
            x.undo();
            due("undo() behind as many", x.undo(), -3);
            x.leave(0, 0, 0, 0, 1);
            x.valley(5, 5);
            due("undo() in a new valley", x.undo(), -3);
            x.maker(0, 0, 0);
            due("undo(): a MAKER is no LEAVE", x.undo(), -3);
            x.leave(0, 0, 1, 0, 1);
            x.take(0);
            due("undo() of refused ones", x.undo(), -3);
            x.leave(0, 0, 0, 0, 1);
            Boundary.type(x, "valley 1 1;maker 0 0 0;leave 0 0 0 0 1;");
            x.read();
            due("undo() of LEAVES that were read", x.undo(), -3);
            due("status(1)", x.status(1), 5);
            // What was kept in an IMAGE may be undone, and no more than that.
            LentAir y = leaves(1);
            y.image(0);
            y.leave(0, 0, 0, 0, 1);
            y.from(0);
            due("undo() of the IMAGE", y.undo(), 0);
            due("undo() of the IMAGE again", y.undo(), -3);
        });
    }

    private static void about() {
        Boundary.part("Promise 9: about");
        Boundary.asks("Of a LEAVE: MAKER (0), OWNER (1), from (2), to (3), LOUD (4).", () -> {
            LentAir x = new LentAir();
            for (int i = 0; i < 6; i++) {
                x.maker(0, 0, 0);
            }
            int[][] leaves = {{0, 0, 0, 0, 1}, {5, 5, 23, 23, 20}, {1, 2, 3, 4, 5}, {5, 4, 3, 23, 1}};
            for (int[] l : leaves) {
                x.leave(l[0], l[1], l[2], l[3], l[4]);
            }
            for (int i = 0; i < leaves.length; i++) {
                for (int what = 0; what < 5; what++) {
                    due("about(" + i + ", " + what + ")", x.about(i, what), leaves[i][what]);
                }
            }
        });
        Boundary.asks("BAD.", () -> {
            Boundary.edges("about", ABOUT, BAD, 0, 0, 1, 1, 2);
            Boundary.edges("about", ABOUT, BAD, 1, 0, 4, 1, 2);
            Boundary.refused("about", ABOUT, BAD, Boundary.BAD, 8, 0);
            Boundary.refused("about", ABOUT, BAD, Boundary.BAD, 1, 5);
            Boundary.refusedIn("new", LentAir::new, "about", ABOUT, BAD, Boundary.BAD, 0, 0);
        });
    }

    private static void type() {
        Boundary.part("Promise 10: type");
        Boundary.asks("A byte (0 .. 127) comes behind THE TEXT: how many it has.", () -> {
            LentAir x = new LentAir();
            for (int c = 0; c < 128; c++) {
                due("type(" + c + ")", x.type(c), c + 1);
            }
            due("count(5)", x.count(5), 128);
            due("type(-1)", x.type(-1), -2);
            due("type(128)", x.type(128), -2);
            due("count(5)", x.count(5), 128);
            // It comes behind what is there.
            Boundary.type(x, "valley 1 ");
            x.type('2');
            x.type(';');
            due("read()", x.read(), 1);
            due("count(1)", x.count(1), 2);
        });
        Boundary.asks("BAD;", () -> {
            Boundary.edges("type", TYPE, BAD, 0, 0, 127, 59);
            Boundary.refused("type", TYPE, BAD, Boundary.BAD, 128);
            Boundary.refused("type", TYPE, BAD, Boundary.BAD, 256 + 59);
        });
        Boundary.asks("FULL.", () -> {
            LentAir x = new LentAir();
            for (int i = 1; i <= 150; i++) {
                due("type() number " + i, x.type(32), i);
            }
            due("status(2)", x.status(2), 0);
            due("type() number 151", x.type(32), -4);
            due("type() number 152", x.type(0), -4);
            due("status(2)", x.status(2), 2);
            due("count(5)", x.count(5), 150);
            due("clear()", x.clear(), 150);
            due("type() when it is empty again", x.type(32), 1);
            Boundary.refusedIn("full()", Boundary::full, "type", TYPE, -4, Boundary.FULL, 0);
            Boundary.refusedIn("full()", Boundary::full, "type", TYPE, -4, Boundary.FULL, 127);
        });
    }

    private static void clear() {
        Boundary.part("Promise 11: clear");
        Boundary.asks("THE TEXT is empty: how many it had.", () -> {
            LentAir x = new LentAir();
            due("clear() of an empty one", x.clear(), 0);
            x.type(0);
            due("clear() of one", x.clear(), 1);
            due("clear() of an empty one", x.clear(), 0);
            due("count(5)", x.count(5), 0);
            due("read()", x.read(), -10);
            due("type(118)", x.type(118), 1);
            due("read(): what was ahead of it is gone", x.read(), -10);
            LentAir y = Boundary.full();
            due("clear() of a full one", y.clear(), 150);
            // Of what a longer one left nothing is read.
            for (char c : "valley 1 1".toCharArray()) {
                y.type(c);
            }
            due("read()", y.read(), -20);
            due("status(0)", y.status(0), 0);
        });
    }

    private static void read() {
        Boundary.part("Promise 12: read");
        Boundary.asks("THE VALLEY is read: how many ITEMS.", () -> {
            LentAir x = new LentAir();
            Boundary.type(x, "valley 1 1;");
            due("read() of one", x.read(), 1);
            due("read() of the same again", x.read(), 1);
            Boundary.type(x, "valley 2 1;fee 0 5;ground 1 2;air 1 3;maker 4 1 2;leave 0 3 4 5 6;");
            due("read() of one of each", x.read(), 6);
            LentAir y = new LentAir();
            y.valley(2, 1);
            y.fee(0, 5);
            y.put(0, 1, 2);
            y.put(1, 1, 3);
            y.maker(4, 1, 2);
            y.leave(0, 3, 4, 5, 6);
            y.image(0);
            // But for what may be undone and THE TEXT, it is as if it had been told by calls.
            due("undo()", x.undo(), -3);
            due("count(4)", y.count(4), 1);
            for (int hour = 3; hour < 7; hour++) {
                due("far(0, 9, " + hour + ")", x.far(0, 9, hour), y.far(0, 9, hour));
                due("cost(0, 9, " + hour + ")", x.cost(0, 9, hour), y.cost(0, 9, hour));
            }
            Boundary.type(x, "valley1 1;" + "fee0 0;".repeat(20));
            due("read() of as many as there is room for", x.read(), 21);
        });
        Boundary.asks("-10 less the FAULT: all stays.", () -> {
            Boundary.fault("", 0);
            Boundary.fault(";", 0);
            Boundary.fault(" ;", 1);
            Boundary.fault("valley 1 1;maker 0 0 0;leave 0 0 0 0 1;fee 0 5;ground 0 2;ground 0 3;", 67);
            Boundary.fault("valley 1 1;" + " ".repeat(138) + "-", 149);
            Boundary.fault("valley 1 1;fee" + " ".repeat(136), 150);
            // In a full valley, too.
            Boundary.refusedIn("full() behind a FAULT", () -> {
                LentAir x = Boundary.full();
                Boundary.type(x, "valley 1 1;fee 0 5;;");
                return x;
            }, "read", (x, n) -> x.read(), -29, Boundary.NOT_REFUSED);
            // What was told ahead of a FAULT is not in a VALLEY that is read then.
            LentAir x = new LentAir();
            Boundary.type(x, "valley 2 2;fee 3 9;ground 1 2;maker 0 0 0;-");
            due("read() with a FAULT", x.read(), -52);
            Boundary.type(x, "valley 2 2;");
            due("read()", x.read(), 1);
            x.clear();
            LentAir y = new LentAir();
            y.valley(2, 2);
            due("digest()", x.digest(), y.digest());
        });
    }

    private static void due(String call, long got, long want) {
        Boundary.due(call, got, want);
    }
}
