/** The promises 13 to 18: sounds. */
final class PromisesOfSounds {
    private static final Boundary.Call HEARD = (x, n) -> x.heard(n[0], n[1], n[2], n[3]);
    private static final Boundary.Call FAR = (x, n) -> x.far(n[0], n[1], n[2]);
    private static final Boundary.Call COST = (x, n) -> x.cost(n[0], n[1], n[2]);
    private static final Boundary.Call TRESPASS = (x, n) -> x.trespass(n[0], n[1], n[2], n[3]);
    private static final Boundary.Call CARRIED = (x, n) -> x.carried(n[0], n[1], n[2], n[3]);
    private static final Boundary.Call MEND = (x, n) -> x.mend(n[0], n[1], n[2]);
    private static final int BAD = -2;
    private static final int BAD_TOO = -10;

    private PromisesOfSounds() {
    }

    static void all() {
        heard();
        far();
        cost();
        trespass();
        carried();
        mend();
    }

    /** A MAKER, LOUD, HOUR at the front of the numbers: at their edges, and beyond. */
    static void sound(String name, Boundary.Call call, long bad, int... more) {
        int[] numbers = new int[3 + more.length];
        numbers[0] = 1;
        numbers[1] = 7;
        numbers[2] = 5;
        System.arraycopy(more, 0, numbers, 3, more.length);
        Boundary.edges(name, call, bad, 0, 0, 1, numbers);
        Boundary.edges(name, call, bad, 1, 1, 20, numbers);
        Boundary.edges(name, call, bad, 2, 0, 23, numbers);
        int[][] beyond = {{6, 7, 5}, {1, 21, 5}, {1, 0, 5}, {1, 7, 24}};
        for (int[] b : beyond) {
            System.arraycopy(b, 0, numbers, 0, 3);
            Boundary.refused(name, call, bad, Boundary.BAD, numbers);
        }
        numbers[0] = 0;
        numbers[2] = 5;
        Boundary.refusedIn("new", LentAir::new, name, call, bad, Boundary.BAD, numbers);
    }

    private static void heard() {
        Boundary.part("Promise 13: heard");
        Boundary.asks("How LOUD a SOUND is heard in a CELL (0: not).", () -> {
            LentAir x = Boundary.told("valley 3 2;air 5 1;maker 0 0 0;");
            Boundary.louds(x, 0, 1, 0, 1, 0, 0, 0, 0, 0);
            Boundary.louds(x, 0, 2, 0, 2, 1, 0, 1, 0, 0);
            Boundary.louds(x, 0, 3, 0, 3, 2, 1, 2, 1, 0);
            Boundary.louds(x, 0, 20, 23, 20, 19, 18, 19, 18, 0);
        });
        Boundary.asks("BAD.", () -> {
            sound("heard", HEARD, BAD, 11);
            Boundary.edges("heard", HEARD, BAD, 3, 0, 11, 1, 7, 5, 11);
            Boundary.refused("heard", HEARD, BAD, Boundary.BAD, 1, 7, 5, 36);
            Boundary.refused("heard", HEARD, BAD, Boundary.BAD, 1, 7, 5, 64);
        });
    }

    private static void far() {
        Boundary.part("Promise 14: far");
        Boundary.asks("In how many CELLS it is heard.", () -> {
            LentAir x = new LentAir();
            x.valley(6, 6);
            x.maker(0, 0, 0);
            due("far(0, 1, 0)", x.far(0, 1, 0), 1);
            due("far(0, 2, 0)", x.far(0, 2, 0), 3);
            due("far(0, 10, 0)", x.far(0, 10, 0), 35);
            due("far(0, 11, 0)", x.far(0, 11, 0), 36);
            due("far(0, 20, 23)", x.far(0, 20, 23), 36);
            for (int cell = 0; cell < 36; cell++) {
                x.put(1, cell, 5);
            }
            due("far(0, 20, 0) in another's AIR", x.far(0, 20, 0), 1);
            LentAir one = Boundary.told("valley 1 1;maker 0 0 0;");
            due("far(0, 20, 0) in one CELL", one.far(0, 20, 0), 1);
            // A CELL that hears but an ECHO is one, too.
            LentAir e = Boundary.told("valley 3 1;ground 1 2;ground 2 1;maker 3 0 0;");
            due("far(0, 5, 0)", e.far(0, 5, 0), 2);
            due("far(0, 6, 0)", e.far(0, 6, 0), 3);
        });
        Boundary.asks("BAD.", () -> sound("far", FAR, BAD));
    }

    private static void cost() {
        Boundary.part("Promise 15: cost");
        Boundary.asks("COST.", () -> {
            LentAir x = Boundary.told("valley 2 2;air 1 1;air 2 5;air 3 5;fee 0 99;fee 1 98;fee 5 0;maker 5 0 0;maker 5 3 5;");
            due("cost(0, 1, 0): his own CELL in his own AIR", x.cost(0, 1, 0), 0);
            due("cost(0, 2, 0)", x.cost(0, 2, 0), 98);
            due("cost(0, 3, 0)", x.cost(0, 3, 0), 98);
            due("cost(1, 2, 0)", x.cost(1, 2, 0), 98);
            due("cost(1, 3, 0)", x.cost(1, 3, 0), 197);
            x.fee(5, 99);
            due("cost(0, 3, 0)", x.cost(0, 3, 0), 296);
            due("cost(1, 3, 0): his own AIR is free", x.cost(1, 3, 0), 197);
        });
        Boundary.asks("BAD.", () -> sound("cost", COST, BAD));
    }

    private static void trespass() {
        Boundary.part("Promise 16: trespass");
        Boundary.asks("TRESPASS: how many (i = NONE), the i-th CELL.", () -> {
            LentAir x = Boundary.told("valley 4 1;air 0 1;air 1 1;air 3 1;maker 0 2 0;");
            due("trespass(0, 20, 0, -1)", x.trespass(0, 20, 0, LentAir.NONE), 3);
            int[] cells = {0, 1, 3};
            for (int i = 0; i < cells.length; i++) {
                due("trespass(0, 20, 0, " + i + ")", x.trespass(0, 20, 0, i), cells[i]);
            }
            due("trespass(0, 2, 0, -1)", x.trespass(0, 2, 0, -1), 2);
            due("trespass(0, 1, 0, -1)", x.trespass(0, 1, 0, -1), 0);
            // All CELLS but his own, up to the last one.
            LentAir y = new LentAir();
            y.valley(6, 6);
            for (int cell = 0; cell < 36; cell++) {
                y.put(1, cell, 1);
            }
            y.maker(0, 0, 0);
            due("trespass(0, 20, 0, -1)", y.trespass(0, 20, 0, -1), 35);
            due("trespass(0, 20, 0, 0)", y.trespass(0, 20, 0, 0), 1);
            due("trespass(0, 20, 0, 34)", y.trespass(0, 20, 0, 34), 35);
        });
        Boundary.asks("-5: not so many.", () -> {
            LentAir x = Boundary.told("valley 4 1;air 0 1;air 1 1;air 3 1;maker 0 2 0;");
            due("trespass(0, 20, 0, 3)", x.trespass(0, 20, 0, 3), -5);
            due("trespass(0, 2, 0, 2)", x.trespass(0, 2, 0, 2), -5);
            due("trespass(0, 1, 0, 0)", x.trespass(0, 1, 0, 0), -5);
            due("trespass(0, 20, 0, the largest)", x.trespass(0, 20, 0, Integer.MAX_VALUE), -5);
            due("status(0): it is no refusal", x.status(0), 0);
        });
        Boundary.asks("BAD: -10: i below -1, too.", () -> {
            sound("trespass", TRESPASS, BAD_TOO, 0);
            Boundary.edges("trespass", TRESPASS, BAD_TOO, 3, -1, Integer.MAX_VALUE, 1, 7, 5, 0);
        });
    }

    private static void carried() {
        Boundary.part("Promise 17: carried");
        Boundary.asks("CARRIED: how many (i = NONE), the i-th CELL.", () -> {
            LentAir x = hedges();
            due("carried(0, 20, 0, -1)", x.carried(0, 20, 0, LentAir.NONE), 3);
            int[] cells = {0, 2, 5};
            for (int i = 0; i < cells.length; i++) {
                due("carried(0, 20, 0, " + i + ")", x.carried(0, 20, 0, i), cells[i]);
            }
            due("carried(0, 5, 0, -1)", x.carried(0, 5, 0, -1), 0);
            due("carried(0, 6, 0, -1)", x.carried(0, 6, 0, -1), 2);
            due("carried(0, 6, 0, 0)", x.carried(0, 6, 0, 0), 0);
            due("carried(0, 6, 0, 1)", x.carried(0, 6, 0, 1), 2);
        });
        Boundary.asks("-5: not so many.", () -> {
            LentAir x = hedges();
            due("carried(0, 20, 0, 3)", x.carried(0, 20, 0, 3), -5);
            due("carried(0, 6, 0, 2)", x.carried(0, 6, 0, 2), -5);
            due("carried(0, 5, 0, 0)", x.carried(0, 5, 0, 0), -5);
            due("carried(0, 20, 0, the largest)", x.carried(0, 20, 0, Integer.MAX_VALUE), -5);
            due("status(0): it is no refusal", x.status(0), 0);
        });
        Boundary.asks("BAD: -10: i below -1, too.", () -> {
            sound("carried", CARRIED, BAD_TOO, 0);
            Boundary.edges("carried", CARRIED, BAD_TOO, 3, -1, Integer.MAX_VALUE, 1, 7, 5, 0);
        });
    }

    /** A WHISPER in CELL 4, a CLIFF in 1, HEDGES beside it in 0 and 2, one more in 5. */
    private static LentAir hedges() {
        return Boundary.told("valley 3 2;ground 1 2;ground 0 1;ground 2 1;ground 5 1;maker 3 4 0;");
    }

    private static void mend() {
        Boundary.part("Promise 18: mend");
        Boundary.asks("MEND, as bits.", () -> {
            LentAir x = hedges();
            due("mend(0, 5, 0): nothing is CARRIED", x.mend(0, 5, 0), 0);
            due("mend(0, 6, 0)", x.mend(0, 6, 0), 2);
            due("put(0, 1, 2): it stays a CLIFF", x.put(0, 1, 2), 2);
            due("mend(0, 20, 0)", x.mend(0, 20, 0), 2);
            // The first CELL and the last one: bits beyond an int's.
            LentAir y = new LentAir();
            y.valley(6, 6);
            y.put(0, 35, 2);
            y.put(0, 34, 1);
            y.maker(3, 29, 0);
            due("mend(0, 6, 0): CELL 35", y.mend(0, 6, 0), 34359738368L);
            y.put(0, 0, 2);
            y.put(0, 31, 2);
            y.maker(3, 30, 0);
            y.put(0, 32, 1);
            due("mend(1, 6, 0): CELL 31", y.mend(1, 6, 0), 2147483648L);
        });
        Boundary.asks("BAD: -10;", () -> sound("mend", MEND, BAD_TOO));
        Boundary.asks("NO: -20: more than 8 CLIFFS.", () -> {
            LentAir x = hedges();
            x.valley(6, 6);
            x.maker(3, 0, 0);
            x.put(0, 2, 1);
            for (int cell = 1; cell < 36; cell++) {
                if (cell != 2) {
                    x.put(0, cell, 2);
                    int cliffs = cell == 1 ? 1 : cell - 1;
                    due("mend(0, 2, 0) with " + cliffs, x.mend(0, 2, 0), cliffs > 8 ? -20 : 0);
                }
            }
            due("status(1)", x.status(1), 26);
            for (int cell = 9; cell < 36; cell++) {
                x.put(0, cell, 0);
            }
            // Eight, and the WHISPER's ECHO of CELL 1 alone comes into the HEDGE in CELL 2.
            x.put(0, 9, 2);
            due("mend(0, 6, 0) with 8 again", x.mend(0, 6, 0), 2);
            Boundary.refusedIn("full()", Boundary::full, "mend", MEND, -20, Boundary.NO, 0, 1, 0);
            Boundary.refusedIn("full()", Boundary::full, "mend", MEND, -20, Boundary.NO, 5, 20, 23);
            Boundary.refusedIn("full()", Boundary::full, "mend", MEND, -10, Boundary.BAD, 6, 20, 23);
        });
    }

    private static void due(String call, long got, long want) {
        Boundary.due(call, got, want);
    }
}
