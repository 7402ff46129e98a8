/** The sentences of "Terms" on THE VALLEY, MAKERS and LEAVES. */
final class TermsOfValley {
    private TermsOfValley() {
    }

    static void all() {
        cells();
        makersAndLeaves();
    }

    private static void cells() {
        Boundary.asks("6 each; 5 by 5 at first),", () -> {
            LentAir x = new LentAir();
            due("count(0) at first", x.count(0), 5);
            due("count(1) at first", x.count(1), 5);
            for (int w = 1; w <= 6; w++) {
                for (int h = 1; h <= 6; h++) {
                    due("valley(" + w + ", " + h + ")", x.valley(w, h), 1);
                    due("count(0) behind it", x.count(0), w);
                    due("count(1) behind it", x.count(1), h);
                    due("put() in its last CELL", x.put(0, w * h - 1, 0), 0);
                    due("put() behind its last CELL", x.put(0, w * h, 0), -2);
                }
            }
            int[][] bad = {{0, 1}, {1, 0}, {7, 6}, {6, 7}, {0, 0}, {7, 7}, {-1, 6}, {6, -6}};
            for (int[] b : bad) {
                due("valley(" + b[0] + ", " + b[1] + ")", x.valley(b[0], b[1]), -2);
            }
            due("count(0) behind refused ones", x.count(0), 6);
        });
        Boundary.asks("CELL x and W y (from 0 on),", () -> {
            // THUNDER of 2 is heard in his CELL and in those beside it.
            heardIn("3 by 2, CELL 0", 3, 2, 0, 0, 1, 3);
            heardIn("3 by 2, CELL 2", 3, 2, 2, 1, 2, 5);
            heardIn("3 by 2, CELL 3", 3, 2, 3, 0, 3, 4);
            heardIn("3 by 2, CELL 5", 3, 2, 5, 2, 4, 5);
            heardIn("2 by 3, CELL 0", 2, 3, 0, 0, 1, 2);
            heardIn("2 by 3, CELL 3", 2, 3, 3, 1, 2, 3, 5);
            heardIn("6 by 1, CELL 5", 6, 1, 5, 4, 5);
            heardIn("1 by 6, CELL 5", 1, 6, 5, 4, 5);
            heardIn("6 by 6, CELL 35", 6, 6, 35, 29, 34, 35);
            heardIn("1 by 1, CELL 0", 1, 1, 0, 0);
            LentAir x = new LentAir();
            x.valley(3, 2);
            due("maker() in CELL -1", x.maker(0, -1, 0), -2);
            due("maker() in CELL 6", x.maker(0, 6, 0), -2);
        });
        Boundary.asks("each of a GROUND (0 GRASS, at first, 1 HEDGE, 2 CLIFF),", () -> {
            LentAir x = new LentAir();
            for (int cell = 0; cell < 25; cell++) {
                due("put(0, " + cell + ", 0) at first", x.put(0, cell, 0), 0);
            }
            due("put(0, 0, -1)", x.put(0, 0, -1), -2);
            due("put(0, 0, 3)", x.put(0, 0, 3), -2);
            // A VOICE ends in a HEDGE, not in a CLIFF nor in GRASS; 9 CLIFFS are too many to mend.
            x.valley(3, 3);
            x.maker(0, 0, 0);
            x.put(0, 3, 1);
            x.put(0, 4, 1);
            due("heard() behind GRASS", x.heard(0, 5, 0, 2), 3);
            x.put(0, 1, 1);
            due("heard() behind 1", x.heard(0, 5, 0, 2), 0);
            x.put(0, 1, 2);
            due("heard() behind 2", x.heard(0, 5, 0, 2), 3);
            for (int ground = 0; ground < 3; ground++) {
                for (int cell = 0; cell < 9; cell++) {
                    x.put(0, cell, ground);
                }
                due("mend() over 9 of GROUND " + ground, x.mend(0, 1, 0), ground == 2 ? -20 : 0);
            }
        });
        Boundary.asks("its AIR of an OWNER (0 .. 5; 0 at first).", () -> {
            LentAir x = new LentAir();
            for (int cell = 0; cell < 25; cell++) {
                due("put(1, " + cell + ", 5) at first", x.put(1, cell, 5), 0);
                due("put(1, " + cell + ", 0)", x.put(1, cell, 0), 5);
            }
            due("put(1, 0, -1)", x.put(1, 0, -1), -2);
            due("put(1, 0, 6)", x.put(1, 0, 6), -2);
            due("put(1, 0, 0) behind them", x.put(1, 0, 0), 0);
        });
        Boundary.asks("FEES: what OWNERS ask for a CELL (0 .. 99; 1 at first).", () -> {
            LentAir x = new LentAir();
            for (int owner = 0; owner < 6; owner++) {
                due("fee(" + owner + ", 99) at first", x.fee(owner, 99), 1);
                due("fee(" + owner + ", 0)", x.fee(owner, 0), 99);
                due("fee(" + owner + ", -1)", x.fee(owner, -1), -2);
                due("fee(" + owner + ", 100)", x.fee(owner, 100), -2);
                due("fee(" + owner + ", 1)", x.fee(owner, 1), 0);
            }
            // Dearest of all: 35 CELLS of 99 each.
            LentAir y = new LentAir();
            y.valley(6, 6);
            y.put(1, 0, 5);
            y.maker(5, 0, 5);
            y.fee(0, 99);
            due("cost(0, 11, 0): all 36 are heard", y.cost(0, 11, 0), 3465);
            y.fee(0, 0);
            due("cost(0, 11, 0) for 0 each", y.cost(0, 11, 0), 0);
        });
    }

    private static void heardIn(String where, int w, int h, int cell, int... cells) {
        LentAir x = new LentAir();
        x.valley(w, h);
        x.maker(5, cell, 0);
        due("far(0, 2, 0): " + where, x.far(0, 2, 0), cells.length);
        for (int at : cells) {
            due("heard(0, 2, 0, " + at + "): " + where, x.heard(0, 2, 0, at), at == cell ? 2 : 1);
        }
    }

    private static void makersAndLeaves() {
        Boundary.asks("MAKERS 0 .. 5, as they come: a KIND, a CELL, an OWNER who he is (0 .. 5).", () -> {
            LentAir x = new LentAir();
            for (int i = 0; i < 6; i++) {
                due("heard(" + i + ", 1, 0, 0): not there yet", x.heard(i, 1, 0, 0), -2);
                due("maker(" + (5 - i) + ", " + (24 - i) + ", " + i + ")", x.maker(5 - i, 24 - i, i), i);
                due("heard() in his CELL", x.heard(i, 1, 0, 24 - i), 1);
            }
            due("a 7th one", x.maker(0, 0, 0), -4);
            LentAir y = new LentAir();
            int[][] bad = {{-1, 0, 0}, {6, 0, 0}, {0, -1, 0}, {0, 25, 0}, {0, 0, -1}, {0, 0, 6}};
            for (int[] b : bad) {
                due("maker(" + b[0] + ", " + b[1] + ", " + b[2] + ")", y.maker(b[0], b[1], b[2]), -2);
            }
            due("the next one is the first", y.maker(0, 0, 0), 0);
        });
        Boundary.asks("LEAVES 0 .. 7, as they come: a MAKER, an OWNER in whose AIR,", () -> {
            LentAir x = new LentAir();
            x.maker(0, 0, 0);
            x.maker(0, 0, 0);
            for (int i = 0; i < 8; i++) {
                due("about(" + i + ", 0): not there yet", x.about(i, 0), -2);
                due("leave()", x.leave(i % 2, i % 6, i, i + 1, i + 1), i);
                due("about(" + i + ", 0)", x.about(i, 0), i % 2);
                due("about(" + i + ", 1)", x.about(i, 1), i % 6);
            }
            due("a 9th one", x.leave(0, 0, 0, 0, 1), -4);
            int[][] bad = {{-1, 0}, {2, 0}, {0, -1}, {0, 6}};
            LentAir y = new LentAir();
            y.maker(0, 0, 0);
            y.maker(0, 0, 0);
            for (int[] b : bad) {
                due("leave(" + b[0] + ", " + b[1] + ", 0, 0, 1)", y.leave(b[0], b[1], 0, 0, 1), -2);
            }
            due("the next one is the first", y.leave(1, 5, 0, 0, 1), 0);
        });
        Boundary.asks("HOURS from .. to (0 .. 23, from no more than to),", () -> {
            LentAir x = new LentAir();
            x.maker(0, 0, 0);
            int[][] hours = {{0, 0}, {23, 23}, {0, 23}, {12, 12}, {12, 13}};
            for (int i = 0; i < hours.length; i++) {
                due("leave from " + hours[i][0] + " to " + hours[i][1], x.leave(0, 0, hours[i][0], hours[i][1], 1), i);
                due("about(" + i + ", 2)", x.about(i, 2), hours[i][0]);
                due("about(" + i + ", 3)", x.about(i, 3), hours[i][1]);
            }
            int[][] bad = {{1, 0}, {23, 0}, {23, 22}, {-1, 0}, {-1, 23}, {0, 24}, {24, 24}, {13, 12}, {-1, -1}};
            for (int[] b : bad) {
                due("leave from " + b[0] + " to " + b[1], x.leave(0, 0, b[0], b[1], 1), -2);
            }
            due("count(3)", x.count(3), hours.length);
        });
        Boundary.asks("so LOUD at most (1 .. 20).", () -> {
            LentAir x = new LentAir();
            x.maker(0, 0, 0);
            due("leave so LOUD: 0", x.leave(0, 0, 0, 0, 0), -2);
            due("leave so LOUD: 1", x.leave(0, 0, 0, 0, 1), 0);
            due("leave so LOUD: 20", x.leave(0, 0, 0, 0, 20), 1);
            due("leave so LOUD: 21", x.leave(0, 0, 0, 0, 21), -2);
            due("about(0, 4)", x.about(0, 4), 1);
            due("about(1, 4)", x.about(1, 4), 20);
            // 20 is heard 19 so LOUD in the next CELL: nothing is too LOUD for 20; for 1 only 2 is heard there.
            LentAir y = Boundary.told("valley 2 1;air 1 1;maker 0 0 0;leave 0 1 0 0 20;leave 0 1 1 1 1;leave 0 1 2 2 19;");
            due("heard(0, 20, 0, 1) by 20", y.heard(0, 20, 0, 1), 19);
            due("heard(0, 2, 1, 1) by 1", y.heard(0, 2, 1, 1), 1);
            due("heard(0, 3, 1, 1) by 1", y.heard(0, 3, 1, 1), 0);
            due("heard(0, 20, 2, 1) by 19", y.heard(0, 20, 2, 1), 19);
        });
        Boundary.asks("AIR of himself needs none.", () -> {
            LentAir x = Boundary.told("valley 3 1;air 0 3;air 1 3;air 2 4;maker 0 0 3;maker 0 0 4;");
            Boundary.louds(x, 0, 20, 0, 20, 19, 0);
            Boundary.louds(x, 0, 2, 23, 2, 1, 0);
            Boundary.louds(x, 1, 20, 0, 20, 0, 0);
            // A LEAVE in it, for other HOURS or less LOUD, takes nothing away.
            x.leave(0, 3, 5, 5, 1);
            Boundary.louds(x, 0, 20, 5, 20, 19, 0);
            Boundary.louds(x, 0, 20, 6, 20, 19, 0);
        });
        Boundary.asks("A CRY of each: 0 .. 20 (5 at first).", () -> {
            LentAir x = new LentAir();
            for (int i = 0; i < 6; i++) {
                x.maker(0, 0, 0);
                due("cry(" + i + ", 20) at first", x.cry(i, 20), 5);
                due("cry(" + i + ", 0)", x.cry(i, 0), 20);
                due("cry(" + i + ", -1)", x.cry(i, -1), -2);
                due("cry(" + i + ", 21)", x.cry(i, 21), -2);
                due("cry(" + i + ", 5)", x.cry(i, 5), 0);
            }
        });
    }

    private static void due(String call, long got, long want) {
        Boundary.due(call, got, want);
    }
}
