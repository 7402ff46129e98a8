/** The promises 19 to 30: leaves, ears; lets, hours, thunder. */
final class PromisesOfLeaves {
    private static final Boundary.Call EARS = (x, n) -> x.ears(n[0], n[1]);
    private static final Boundary.Call BUY = (x, n) -> x.buy(n[0], n[1], n[2], n[3]);
    private static final Boundary.Call WHO = (x, n) -> x.who(n[0], n[1]);
    private static final Boundary.Call STILL = (x, n) -> x.still(n[0], n[1], n[2]);
    private static final Boundary.Call CRY = (x, n) -> x.cry(n[0], n[1]);
    private static final Boundary.Call CRIERS = (x, n) -> x.criers(n[0], n[1], n[2], n[3]);
    private static final Boundary.Call LET = (x, n) -> x.let(n[0], n[1]);
    private static final Boundary.Call LIABLE = (x, n) -> x.liable(n[0]);
    private static final Boundary.Call FIRST = (x, n) -> x.first(n[0], n[1], n[2], n[3]);
    private static final Boundary.Call PEAL = (x, n) -> x.peal(n[0], n[1], n[2]);
    private static final Boundary.Call THUNDER = (x, n) -> x.thunder(n[0], n[1]);
    private static final int BAD = -2;
    private static final int BAD_TOO = -10;

    private PromisesOfLeaves() {
    }

    static void all() {
        ears();
        buy();
        who();
        still();
        cry();
        criers();
        let();
        liable();
        rings();
        first();
        peal();
        thunder();
    }

    private static void ears() {
        Boundary.part("Promise 19: ears");
        Boundary.asks("A CELL is told as EARS (1), DEAF (2), neither (0; at first): what it was.", () -> {
            LentAir x = new LentAir();
            for (int cell : new int[] {0, 24}) {
                int was = 0;
                for (int v : new int[] {0, 1, 1, 2, 2, 0, 2, 1, 0}) {
                    due("ears(" + cell + ", " + v + ")", x.ears(cell, v), was);
                    was = v;
                }
            }
            // All CELLS may be told so at once: all are heard, or none.
            x.maker(0, 12, 0);
            for (int cell = 0; cell < 25; cell++) {
                due("ears(" + cell + ", 1)", x.ears(cell, 1), 0);
            }
            due("who(0, 0): to all 25 by 5", x.who(0, 0), 5);
            for (int cell = 0; cell < 25; cell++) {
                due("ears(" + cell + ", 2)", x.ears(cell, 2), 1);
            }
            due("who(0, -1): to none", x.who(0, -1), 0);
        });
        Boundary.asks("BAD.", () -> {
            Boundary.edges("ears", EARS, BAD, 0, 0, 11, 5, 1);
            Boundary.edges("ears", EARS, BAD, 1, 0, 2, 5, 1);
            Boundary.refused("ears", EARS, BAD, Boundary.BAD, 36, 0);
        });
    }

    private static LentAir toBuy() {
        LentAir x = Boundary.told("valley 3 1;air 1 4;air 2 5;fee 4 99;fee 5 0;maker 0 0 0;");
        x.ears(2, 1);
        return x;
    }

    private static void buy() {
        Boundary.part("Promise 20: buy");
        Boundary.asks("BUY: COST (0), OWNERS (1).", () -> {
            LentAir x = toBuy();
            due("buy(0, 3, 0, 0)", x.buy(0, 3, 0, 0), 99);
            due("buy(0, 3, 0, 1)", x.buy(0, 3, 0, 1), 48);
            x.ears(2, 0);
            due("buy(0, 3, 0, 0): nothing", x.buy(0, 3, 0, 0), 0);
            due("buy(0, 3, 0, 1): nobody", x.buy(0, 3, 0, 1), 0);
        });
        Boundary.asks("NONE.", () -> {
            LentAir x = toBuy();
            for (int what = 0; what < 2; what++) {
                due("buy(0, 2, 0, " + what + "): not so far", x.buy(0, 2, 0, what), LentAir.NONE);
                x.ears(1, 2);
                due("buy(0, 3, 0, " + what + "): a DEAF one between", x.buy(0, 3, 0, what), LentAir.NONE);
                x.ears(1, 0);
            }
            due("status(0): it is no refusal", x.status(0), 0);
        });
        Boundary.asks("BAD: -10.", () -> {
            PromisesOfSounds.sound("buy", BUY, BAD_TOO, 1);
            Boundary.edges("buy", BUY, BAD_TOO, 3, 0, 1, 1, 7, 5, 0);
            Boundary.refused("buy", BUY, BAD_TOO, Boundary.BAD, 1, 7, 5, 2);
        });
    }

    private static LentAir heardAlways() {
        LentAir x = new LentAir();
        x.maker(0, 0, 0);
        x.maker(3, 24, 5);
        return x;
    }

    private static void who() {
        Boundary.part("Promise 21: who");
        Boundary.asks("WHO: how many (i = NONE), the i-th pair.", () -> {
            LentAir x = heardAlways();
            due("who(0, -1)", x.who(0, LentAir.NONE), 40);
            due("who(0, 0)", x.who(0, 0), 1);
            due("who(0, 19)", x.who(0, 19), 20);
            due("who(0, 20)", x.who(0, 20), 101);
            due("who(23, 39)", x.who(23, 39), 120);
            x.ears(24, 1);
            x.ears(0, 2);
            due("who(0, -1) of one", x.who(0, -1), 20);
            due("who(0, 0) of one", x.who(0, 0), 101);
            x.ears(24, 2);
            due("who(0, -1) of none", x.who(0, -1), 0);
        });
        Boundary.asks("-5: not so many.", () -> {
            LentAir x = heardAlways();
            due("who(0, 40)", x.who(0, 40), -5);
            due("who(0, the largest)", x.who(0, Integer.MAX_VALUE), -5);
            due("who(0, 0) without MAKERS", new LentAir().who(0, 0), -5);
            due("status(0): it is no refusal", x.status(0), 0);
        });
        Boundary.asks("BAD: -10: i below -1, too.", () -> {
            Boundary.edges("who", WHO, BAD_TOO, 0, 0, 23, 5, 0);
            Boundary.edges("who", WHO, BAD_TOO, 1, -1, Integer.MAX_VALUE, 5, 0);
            Boundary.refused("who", WHO, BAD_TOO, Boundary.BAD, 24, 0);
        });
    }

    private static void still() {
        Boundary.part("Promise 22: still");
        Boundary.asks("STILL, as bits.", () -> {
            LentAir x = Boundary.told("valley 2 1;air 1 1;maker 0 0 0;");
            due("still(20, 0, 1): none", x.still(20, 0, 1), 0);
            for (int i = 0; i < 8; i++) {
                x.leave(0, i % 2, 0, 23, 20);
            }
            due("still(20, 0, 1): all of OWNER 1", x.still(20, 0, 1), 170);
            due("still(1, 0, 1): too low", x.still(1, 0, 1), 0);
            due("count(3): they stay", x.count(3), 8);
        });
        Boundary.asks("NONE.", () -> {
            LentAir x = Boundary.told("valley 2 1;air 1 1;maker 0 0 0;");
            for (int i = 0; i < 8; i++) {
                x.leave(0, 1, 0, 23, 20);
            }
            due("still(1, 0, 0): his own CELL", x.still(1, 0, 0), LentAir.NONE);
            x.maker(5, 0, 0);
            due("still(2, 0, 1): THUNDER", x.still(2, 0, 1), LentAir.NONE);
            due("status(0): it is no refusal", x.status(0), 0);
        });
        Boundary.asks("BAD.", () -> {
            Boundary.edges("still", STILL, BAD, 0, 1, 20, 7, 5, 3);
            Boundary.edges("still", STILL, BAD, 1, 0, 23, 7, 5, 3);
            Boundary.edges("still", STILL, BAD, 2, 0, 11, 7, 5, 3);
            Boundary.refused("still", STILL, BAD, Boundary.BAD, 21, 5, 3);
            Boundary.refused("still", STILL, BAD, Boundary.BAD, 7, 24, 3);
            Boundary.refused("still", STILL, BAD, Boundary.BAD, 7, 5, 36);
        });
    }

    private static void cry() {
        Boundary.part("Promise 23: cry");
        Boundary.asks("CRY of a MAKER: what it was.", () -> {
            LentAir x = new LentAir();
            for (int maker = 0; maker < 6; maker++) {
                x.maker(0, 0, 0);
            }
            for (int maker : new int[] {0, 5}) {
                int was = 5;
                for (int loud : new int[] {0, 20, 20, 1, 0, 5}) {
                    due("cry(" + maker + ", " + loud + ")", x.cry(maker, loud), was);
                    was = loud;
                }
            }
        });
        Boundary.asks("BAD.", () -> {
            Boundary.edges("cry", CRY, BAD, 0, 0, 1, 1, 7);
            Boundary.edges("cry", CRY, BAD, 1, 0, 20, 1, 7);
            Boundary.refused("cry", CRY, BAD, Boundary.BAD, 6, 7);
            Boundary.refused("cry", CRY, BAD, Boundary.BAD, 1, 21);
            Boundary.refusedIn("new", LentAir::new, "cry", CRY, BAD, Boundary.BAD, 0, 5);
        });
    }

    private static void criers() {
        Boundary.part("Promise 24: criers");
        Boundary.asks("CRIERS: how many (0), NEXT (1).", () -> {
            LentAir x = Boundary.told("valley 5 1;maker 0 0 0;maker 0 4 0;maker 0 2 0;");
            due("criers(0, 1, 0, 0): a CRY of 5 comes so far", x.criers(0, 1, 0, 0), 2);
            due("criers(0, 1, 0, 1)", x.criers(0, 1, 0, 1), 1);
            x.cry(0, 4);
            due("criers(0, 1, 0, 0): of 4 not", x.criers(0, 1, 0, 0), 3);
            due("criers(0, 1, 0, 1)", x.criers(0, 1, 0, 1), 2);
        });
        Boundary.asks("NONE (NEXT too, if one alone).", () -> {
            LentAir x = Boundary.told("valley 5 1;maker 0 0 0;maker 0 4 0;");
            due("criers(0, 0, 0, 0): one alone", x.criers(0, 0, 0, 0), 1);
            due("criers(0, 0, 0, 1): nobody behind him", x.criers(0, 0, 0, 1), LentAir.NONE);
            x.cry(0, 0);
            due("criers(0, 0, 0, 0): though he does not cry", x.criers(0, 0, 0, 0), 1);
            due("criers(0, 0, 0, 1)", x.criers(0, 0, 0, 1), LentAir.NONE);
            due("criers(0, 1, 0, 0)", x.criers(0, 1, 0, 0), LentAir.NONE);
            due("criers(0, 1, 0, 1)", x.criers(0, 1, 0, 1), LentAir.NONE);
            due("criers(1, 0, 0, 0): the other way", x.criers(1, 0, 0, 0), 2);
            due("status(0): it is no refusal", x.status(0), 0);
        });
        Boundary.asks("BAD.", () -> {
            Boundary.edges("criers", CRIERS, BAD, 0, 0, 1, 1, 0, 5, 0);
            Boundary.edges("criers", CRIERS, BAD, 1, 0, 1, 1, 0, 5, 0);
            Boundary.edges("criers", CRIERS, BAD, 2, 0, 23, 1, 0, 5, 0);
            Boundary.edges("criers", CRIERS, BAD, 3, 0, 1, 1, 0, 5, 0);
            // One to himself must be as told, too.
            Boundary.refused("criers", CRIERS, BAD, Boundary.BAD, 6, 6, 5, 0);
            Boundary.refused("criers", CRIERS, BAD, Boundary.BAD, -1, -1, 5, 0);
            Boundary.refused("criers", CRIERS, BAD, Boundary.BAD, 1, 1, 24, 0);
            Boundary.refused("criers", CRIERS, BAD, Boundary.BAD, 1, 1, 5, 2);
            Boundary.refusedIn("new", LentAir::new, "criers", CRIERS, BAD, Boundary.BAD, 0, 0, 0, 0);
        });
    }

    private static void let() {
        Boundary.part("Promise 25: let");
        Boundary.asks("An OWNER lets to another one (NONE: to none): to whom he let.", () -> {
            LentAir x = new LentAir();
            int was = -1;
            for (int to : new int[] {5, 1, 1, LentAir.NONE, LentAir.NONE, 5}) {
                due("let(0, " + to + ")", x.let(0, to), was);
                was = to;
            }
            due("let(5, 0)", x.let(5, 0), -1);
            due("let(5, -1)", x.let(5, -1), 0);
        });
        Boundary.asks("BAD: to himself, too.", () -> {
            Boundary.edges("let", LET, BAD, 0, 0, 5, 2, 4);
            Boundary.edges("let", LET, BAD, 1, -1, 5, 2, 4);
            for (int owner = 0; owner < 6; owner++) {
                Boundary.refused("let", LET, BAD, Boundary.BAD, owner, owner);
            }
            Boundary.refused("let", LET, BAD, Boundary.BAD, -1, -1);
            Boundary.refused("let", LET, BAD, Boundary.BAD, 6, 6);
            Boundary.refused("let", LET, BAD, Boundary.BAD, 1, 6);
        });
    }

    private static void liable() {
        Boundary.part("Promise 26: liable");
        Boundary.asks("LIABLE.", () -> {
            LentAir x = new LentAir();
            due("liable(0)", x.liable(0), 0);
            due("liable(5)", x.liable(5), 5);
            for (int owner = 5; owner > 0; owner--) {
                x.let(owner, owner - 1);
            }
            for (int owner = 0; owner < 6; owner++) {
                due("liable(" + owner + ")", x.liable(owner), 0);
            }
        });
        Boundary.asks("NONE.", () -> {
            LentAir x = new LentAir();
            for (int owner = 5; owner > 0; owner--) {
                x.let(owner, owner - 1);
            }
            x.let(0, 1);
            for (int owner = 0; owner < 6; owner++) {
                due("liable(" + owner + "): on a ring of two, or into it", x.liable(owner), LentAir.NONE);
            }
            x.let(0, 5);
            for (int owner = 0; owner < 6; owner++) {
                due("liable(" + owner + "): on a ring of six", x.liable(owner), LentAir.NONE);
            }
            due("status(0): it is no refusal", x.status(0), 0);
        });
        Boundary.asks("BAD.", () -> {
            Boundary.edges("liable", LIABLE, BAD, 0, 0, 5, 2);
            Boundary.refused("liable", LIABLE, BAD, Boundary.BAD, 6);
        });
    }

    private static void rings() {
        Boundary.part("Promise 27: rings");
        Boundary.asks("RINGS, as bits.", () -> {
            LentAir x = new LentAir();
            due("rings(): none", x.rings(), 0);
            x.let(0, 5);
            due("rings(): no ring yet", x.rings(), 0);
            x.let(5, 0);
            due("rings(): the least and the largest", x.rings(), 33);
            x.let(1, 2);
            x.let(2, 3);
            x.let(3, 4);
            x.let(4, 1);
            due("rings(): all", x.rings(), 63);
            x.let(2, 0);
            due("rings(): who comes to one is on none", x.rings(), 33);
            x.let(0, -1);
            due("rings(): none again", x.rings(), 0);
        });
    }

    private static void first() {
        Boundary.part("Promise 28: first");
        Boundary.asks("FIRST HOUR.", () -> {
            LentAir x = Boundary.told("valley 2 1;air 1 1;maker 0 0 0;leave 0 1 0 0 20;leave 0 1 12 12 1;leave 0 1 23 23 20;");
            int[][] asked = {{0, 0}, {1, 23}, {12, 23}, {23, 23}};
            for (int[] a : asked) {
                due("first(0, 3, " + a[0] + ", 1)", x.first(0, 3, a[0], 1), a[1]);
            }
            due("first(0, 2, 1, 1)", x.first(0, 2, 1, 1), 12);
            due("first(0, 2, 13, 1)", x.first(0, 2, 13, 1), 23);
            due("first(0, 1, 17, 0)", x.first(0, 1, 17, 0), 17);
        });
        Boundary.asks("NONE.", () -> {
            LentAir x = Boundary.told("valley 2 1;air 1 1;maker 0 0 0;leave 0 1 0 22 20;");
            due("first(0, 2, 22, 1)", x.first(0, 2, 22, 1), 22);
            due("first(0, 2, 23, 1): it does not begin at 0 again", x.first(0, 2, 23, 1), LentAir.NONE);
            due("first(0, 1, 0, 1): not so far", x.first(0, 1, 0, 1), LentAir.NONE);
            due("status(0): it is no refusal", x.status(0), 0);
        });
        Boundary.asks("BAD.", () -> {
            PromisesOfSounds.sound("first", FIRST, BAD, 11);
            Boundary.edges("first", FIRST, BAD, 3, 0, 11, 1, 7, 5, 0);
            Boundary.refused("first", FIRST, BAD, Boundary.BAD, 1, 7, 5, 36);
        });
    }

    private static void peal() {
        Boundary.part("Promise 29: peal");
        Boundary.asks("PEAL: the LOUD (0), how many CELLS (1).", () -> {
            LentAir x = Boundary.told("valley 6 1;maker 0 0 0;maker 2 0 0;");
            due("peal(0, 0, 0)", x.peal(0, 0, 0), 6);
            due("peal(0, 0, 1)", x.peal(0, 0, 1), 6);
            due("peal(1, 23, 0)", x.peal(1, 23, 0), 11);
            due("peal(1, 23, 1)", x.peal(1, 23, 1), 6);
            x.put(1, 1, 5);
            due("peal(0, 0, 0): his own CELL alone", x.peal(0, 0, 0), 1);
            due("peal(0, 0, 1)", x.peal(0, 0, 1), 1);
        });
        Boundary.asks("BAD.", () -> {
            Boundary.edges("peal", PEAL, BAD, 0, 0, 1, 1, 5, 0);
            Boundary.edges("peal", PEAL, BAD, 1, 0, 23, 1, 5, 0);
            Boundary.edges("peal", PEAL, BAD, 2, 0, 1, 1, 5, 0);
            Boundary.refused("peal", PEAL, BAD, Boundary.BAD, 6, 5, 0);
            Boundary.refused("peal", PEAL, BAD, Boundary.BAD, 1, 24, 0);
            Boundary.refused("peal", PEAL, BAD, Boundary.BAD, 1, 5, 2);
            Boundary.refusedIn("new", LentAir::new, "peal", PEAL, BAD, Boundary.BAD, 0, 0, 0);
        });
    }

    private static void thunder() {
        Boundary.part("Promise 30: thunder");
        Boundary.asks("THUNDER.", () -> {
            LentAir x = new LentAir();
            due("thunder(0, 0): no clap", x.thunder(0, 0), 0);
            due("thunder(999999, 0): no clap", x.thunder(999999, 0), 0);
            // X is 12345: CELL 0, 4 so LOUD: 4 and 3 and 2 and 1 CELLS.
            due("thunder(0, 1)", x.thunder(0, 1), 10);
            due("thunder(999999, 1)", x.thunder(999999, 1), TermsOfState.claps(999999, 1, 5, 5));
            due("thunder(999999, 60)", x.thunder(999999, 60), TermsOfState.claps(999999, 60, 5, 5));
            x.valley(1, 1);
            due("thunder(999999, 60) in one CELL", x.thunder(999999, 60), 1);
            due("thunder(0, 0) in one CELL", x.thunder(0, 0), 0);
        });
        Boundary.asks("BAD.", () -> {
            Boundary.edges("thunder", THUNDER, BAD, 0, 0, 999999, 7, 7);
            Boundary.edges("thunder", THUNDER, BAD, 1, 0, 60, 7, 7);
            Boundary.refused("thunder", THUNDER, BAD, Boundary.BAD, 1000000, 0);
            Boundary.refused("thunder", THUNDER, BAD, Boundary.BAD, 0, 61);
        });
    }

    private static void due(String call, long got, long want) {
        Boundary.due(call, got, want);
    }
}
