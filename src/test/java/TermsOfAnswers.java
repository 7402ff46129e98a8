/** The sentences of "Terms" on what is answered of SOUNDS, LEAVES, CRIES, LETS and HOURS. */
final class TermsOfAnswers {
    private TermsOfAnswers() {
    }

    static void all() {
        costAndTrespass();
        buy();
        criers();
        who();
        still();
        carriedAndMend();
        lets();
        hours();
    }

    /** A DOG's bark has LEAVE up to the CLIFF in CELL 2, its ECHO goes on to CELL 3, and as far as it is LOUD. */
    private static LentAir barked() {
        return Boundary.told("valley 6 1;ground 2 2;air 1 1;air 2 1;air 3 2;air 4 2;air 5 3;fee 1 7;fee 2 30;maker 2 0 0;maker 0 5 1;"
            + "leave 0 1 0 23 20;leave 1 2 0 5 20;");
    }

    private static void costAndTrespass() {
        Boundary.asks("2 COST of a SOUND: FEES of all CELLS but his own AIR's in which it is heard but for ECHOES.", () -> {
            LentAir x = barked();
            due("far(0, 10, 0)", x.far(0, 10, 0), 5);
            due("cost(0, 10, 0): CELLS 3 and 4 hear but an ECHO", x.cost(0, 10, 0), 14);
            due("cost(0, 3, 0): heard in CELLS 0 and 1", x.cost(0, 3, 0), 7);
            due("cost(0, 2, 0): heard in CELL 0 alone", x.cost(0, 2, 0), 0);
            x.fee(0, 99);
            due("cost(0, 10, 0): his own AIR is free", x.cost(0, 10, 0), 14);
            x.put(1, 0, 2);
            due("cost(0, 2, 0): his own CELL in another's AIR", x.cost(0, 2, 0), 30);
            x.put(1, 1, 0);
            due("cost(0, 10, 0): his AIR, but not his own CELL", x.cost(0, 10, 0), 37);
        });
        Boundary.asks("TRESPASS: CELLS in which it would be heard (but for ECHOES), needed nobody LEAVE, and is not (but for ECHOES): "
            + "how many, the i-th.", () -> {
            LentAir x = barked();
            // CELLS 3 and 4 are CARRIED, but trespassed all the same; so LOUD it would come to CELL 4, or 5.
            due("trespass(0, 10, 0, -1)", x.trespass(0, 10, 0, -1), 2);
            due("trespass(0, 10, 0, 0)", x.trespass(0, 10, 0, 0), 3);
            due("trespass(0, 10, 0, 1)", x.trespass(0, 10, 0, 1), 4);
            due("trespass(0, 10, 0, 2)", x.trespass(0, 10, 0, 2), -5);
            due("trespass(0, 11, 0, -1)", x.trespass(0, 11, 0, -1), 3);
            due("trespass(0, 11, 0, 2)", x.trespass(0, 11, 0, 2), 5);
            due("trespass(0, 6, 0, -1): none", x.trespass(0, 6, 0, -1), 0);
            due("trespass(0, 6, 0, 0)", x.trespass(0, 6, 0, 0), -5);
            x.take(0);
            due("trespass(0, 11, 0, 0): from CELL 1 on", x.trespass(0, 11, 0, 0), 1);
            due("trespass(0, 11, 0, 4)", x.trespass(0, 11, 0, 4), 5);
            due("trespass(0, 11, 0, 5)", x.trespass(0, 11, 0, 5), -5);
            // A HEDGE is no question of LEAVE.
            x.put(0, 3, 1);
            due("trespass(0, 11, 0, -1) up to the HEDGE", x.trespass(0, 11, 0, -1), 3);
            // CELL 0 may be the first one.
            LentAir y = Boundary.told("valley 2 1;air 0 1;maker 0 1 0;");
            due("trespass(0, 2, 0, 0)", y.trespass(0, 2, 0, 0), 0);
            due("trespass(0, 1, 0, -1)", y.trespass(0, 1, 0, -1), 0);
        });
    }

    /** To CELL 8 from CELL 0: above by OWNER 1's AIR (3 CELLS), below by 2's (2) and 3's. */
    private static LentAir twoWays(int fee1, int fee2, int fee3) {
        LentAir x = Boundary.told("valley 3 3;air 1 1;air 2 1;air 5 1;air 3 2;air 6 2;air 7 3;air 4 5;maker 0 0 0;");
        x.fee(1, fee1);
        x.fee(2, fee2);
        x.fee(3, fee3);
        x.ears(8, 1);
        return x;
    }

    private static void bought(String where, LentAir x, int loud, int hour, int cost, int owners) {
        due("buy(0, " + loud + ", " + hour + ", 0) " + where, x.buy(0, loud, hour, 0), cost);
        due("buy(0, " + loud + ", " + hour + ", 1) " + where, x.buy(0, loud, hour, 1), owners);
    }

    private static void buy() {
        Boundary.asks("BUY for a MAKER, LOUD, in an HOUR: OWNERS (bits; not himself) of whom he gets LEAVES more", () -> {
            bought("of the OWNER 1", twoWays(1, 9, 9), 9, 0, 3, 2);
            bought("of the OWNERS 2 and 3", twoWays(9, 1, 1), 9, 0, 3, 12);
            LentAir x = twoWays(9, 1, 1);
            x.ears(8, 0);
            bought("of nobody", x, 9, 0, 0, 0);
            for (int owner = 0; owner < 6; owner++) {
                LentAir y = Boundary.told("valley 2 1;air 1 " + owner + ";maker 0 0 3;");
                y.ears(1, 1);
                // His own CELL is in the AIR of OWNER 0, and costs 1.
                bought("of " + owner + ", the OWNER 3 himself", y, 2, 0, owner == 3 ? 1 : 2, owner == 3 ? 0 : 1 << owner);
            }
            // All but himself.
            LentAir z = Boundary.told("valley 6 1;air 1 1;air 2 2;air 3 3;air 4 4;air 5 5;maker 0 0 0;");
            z.ears(5, 1);
            bought("of five", z, 6, 0, 5, 62);
        });
        Boundary.asks("(at all HOURS, for all LOUD)", () -> {
            LentAir x = Boundary.told("valley 2 1;air 1 1;maker 0 0 0;leave 0 1 5 5 1;");
            x.ears(1, 1);
            for (int hour : new int[] {0, 4, 6, 23}) {
                bought("at the HOUR " + hour, x, 20, hour, 1, 2);
                bought("at the HOUR " + hour, x, 2, hour, 1, 2);
            }
            bought("where the LEAVE that he has is not for so LOUD", x, 3, 5, 1, 2);
            bought("where the LEAVE that he has is enough", x, 2, 5, 1, 0);
            bought("for 1, which is not heard there", x, 1, 5, -1, -1);
        });
        Boundary.asks("so that all CELLS told as EARS (1) hear it, ECHOES too,", () -> {
            LentAir x = twoWays(1, 9, 9);
            x.ears(6, 1);
            bought("for CELLS 6 and 8", x, 9, 0, 21, 6);
            x.ears(4, 1);
            bought("for CELL 4, too", x, 9, 0, 22, 38);
            // The HEDGE in CELL 2 hears no WHISPER but as an ECHO, by the LEAVE that is bought.
            LentAir y = Boundary.told("valley 3 1;ground 1 2;ground 2 1;air 2 1;maker 3 0 0;");
            y.ears(2, 1);
            bought("by an ECHO", y, 6, 0, 0, 2);
            bought("by an ECHO that comes not so far", y, 5, 0, -1, -1);
        });
        Boundary.asks("and none told as DEAF (2):", () -> {
            LentAir x = twoWays(1, 9, 9);
            x.ears(2, 2);
            bought("around CELL 2", x, 9, 0, 27, 12);
            x.ears(7, 2);
            bought("around CELL 7, too", x, 9, 0, -1, -1);
            x.ears(2, 0);
            bought("around CELL 7 alone", x, 9, 0, 3, 2);
            x.ears(0, 2);
            bought("with his own CELL DEAF", x, 9, 0, -1, -1);
            // DEAF ones hear ECHOES, too.
            LentAir y = Boundary.told("valley 3 1;ground 1 2;ground 2 1;maker 3 0 0;");
            y.ears(2, 2);
            bought("by no ECHO", y, 5, 0, 0, 0);
            bought("by an ECHO", y, 6, 0, -1, -1);
            // The LEAVE that is bought makes the ECHO too LOUD for CELL 1.
            LentAir z = tooLoudAnEcho();
            z.put(0, 0, 0);
            z.ears(1, 2);
            bought("with the LEAVE", z, 20, 0, 2, 0);
            z.take(0);
            due("heard(0, 20, 0, 1)", z.heard(0, 20, 0, 1), 5);
            bought("without it", z, 20, 0, 2, 2);
            z.ears(1, 1);
            bought("where CELL 1 must hear", z, 20, 0, 1, 0);
        });
        Boundary.asks("the least COST then;", () -> {
            bought("above is dearer", twoWays(10, 2, 3), 9, 0, 7, 12);
            bought("below is dearer", twoWays(10, 2, 27), 9, 0, 30, 2);
            bought("below is cheaper by 1", twoWays(10, 2, 25), 9, 0, 29, 12);
            bought("all is free", twoWays(0, 0, 0), 9, 0, 0, 2);
            // COST is what is heard: the fewest OWNERS may be dearer.
            bought("one for 6, two for 5", twoWays(2, 1, 3), 9, 0, 5, 12);
        });
        Boundary.asks("of like ones the least bits;", () -> {
            bought("30 each", twoWays(10, 2, 26), 9, 0, 30, 2);
            LentAir x = Boundary.told("valley 3 1;air 0 4;air 2 2;maker 0 1 0;");
            bought("nothing to hear", x, 9, 0, 0, 0);
            x.fee(2, 0);
            x.fee(4, 0);
            x.ears(0, 1);
            bought("more of them cost no more", x, 9, 0, 0, 16);
            // 3 CELLS for 3 by OWNER 5 or by 1 and 2: more OWNERS, but the bits are less.
            LentAir y = Boundary.told("valley 3 2;air 1 1;air 2 2;air 3 5;air 4 5;maker 0 0 0;fee 5 1;");
            y.put(1, 5, 0);
            y.ears(5, 1);
            bought("two of less bits", y, 4, 0, 2, 6);
        });
        Boundary.asks("none.", () -> {
            LentAir x = twoWays(1, 1, 1);
            bought("too far", x, 4, 0, -1, -1);
            bought("just so far", x, 5, 0, 3, 2);
            x.put(0, 5, 1);
            x.put(0, 7, 1);
            bought("behind HEDGES", x, 20, 0, -1, -1);
        });
        Boundary.asks("(LEAVES that he has stay.)", () -> {
            LentAir x = twoWays(10, 1, 1);
            x.leave(0, 1, 4, 4, 20);
            long before = x.digest();
            bought("what he has is heard, and costs", x, 9, 4, 30, 0);
            bought("in another HOUR", x, 9, 5, 3, 12);
            due("digest(): nothing is bought", x.digest(), before);
            due("heard(0, 9, 5, 8)", x.heard(0, 9, 5, 8), 0);
            x.ears(2, 2);
            bought("what he has is heard by the DEAF", x, 9, 4, -1, -1);
            x.take(0);
            bought("taken back", x, 9, 4, 3, 12);
            // 8 LEAVES are no bar.
            for (int i = 0; i < 8; i++) {
                x.leave(0, 5, 0, 0, 1);
            }
            bought("with 8 LEAVES", x, 9, 4, 3, 12);
        });
    }

    /**
     * A WHISPER from CELL 4 comes to the CLIFF in CELL 2 by LEAVE 0 as 16, without it as 12; its ECHO, of 8 or 6, may be 5
     * in CELL 1, a HEDGE, by LEAVE 1. The ECHO of the CLIFF in CELL 0 comes there by LEAVE 0.
     */
    private static LentAir tooLoudAnEcho() {
        return Boundary.told("valley 5 2;ground 0 2;ground 1 1;ground 2 2;air 1 1;air 2 2;air 3 1;maker 3 4 0;maker 0 2 2;"
            + "leave 0 1 0 23 20;leave 1 1 0 23 5;leave 0 2 0 23 20;");
    }

    /** In a row of 6 CELLS: 0 in CELL 0, 1 in 2, 2 in 4, 3 in 2 as 1 is, 4 in 5; each cries as 3: two CELLS far. */
    private static LentAir inARow() {
        LentAir x = Boundary.told("valley 6 1;air 5 1;maker 0 0 0;maker 0 2 0;maker 0 4 0;maker 0 2 0;maker 0 5 0;");
        for (int maker = 0; maker < 5; maker++) {
            x.cry(maker, 3);
        }
        return x;
    }

    private static void way(LentAir x, int from, int to, int hour, int many, int next) {
        String call = "criers(" + from + ", " + to + ", " + hour + ", ";
        due(call + "0)", x.criers(from, to, hour, 0), many);
        due(call + "1)", x.criers(from, to, hour, 1), next);
    }

    private static void criers() {
        Boundary.asks("CRIERS in an HOUR, from a MAKER to another one: each by his CRY (0: not at all) is heard by those in whose CELLS "
            + "he is heard, ECHOES too, who cry then:", () -> {
            LentAir x = inARow();
            way(x, 0, 1, 0, 2, 1);
            x.cry(0, 2);
            way(x, 0, 1, 0, -1, -1);
            x.cry(0, 0);
            way(x, 0, 1, 0, -1, -1);
            // In one CELL: a CRY of 1 is heard, of 0 not.
            x.cry(1, 1);
            way(x, 1, 3, 0, 2, 3);
            x.cry(1, 0);
            way(x, 1, 3, 0, -1, -1);
            // Who does not cry is still the last one.
            way(x, 3, 1, 0, 2, 1);
            // In the HOUR in which there is LEAVE.
            way(x, 2, 4, 7, -1, -1);
            x.leave(2, 1, 7, 7, 2);
            way(x, 2, 4, 6, -1, -1);
            way(x, 2, 4, 7, 2, 4);
            way(x, 2, 4, 8, -1, -1);
            // In AIR of OWNER 0, who is another one here.
            LentAir o = Boundary.told("valley 2 1;air 0 1;maker 0 0 1;maker 0 1 1;");
            way(o, 0, 1, 0, -1, -1);
            o.leave(0, 0, 0, 0, 20);
            way(o, 0, 1, 0, 2, 1);
            // By an ECHO: no WHISPER comes into the HEDGE.
            LentAir e = Boundary.told("valley 3 1;ground 1 2;ground 2 1;maker 3 0 0;maker 0 2 0;");
            way(e, 0, 1, 0, -1, -1);
            e.cry(0, 6);
            way(e, 0, 1, 0, 2, 1);
        });
        Boundary.asks("the fewest who must be on the way, the first and the last one too (one to himself: 1);", () -> {
            LentAir x = inARow();
            way(x, 0, 0, 0, 1, -1);
            way(x, 0, 2, 0, 3, 1);
            x.cry(0, 5);
            way(x, 0, 2, 0, 2, 2);
            x.cry(0, 0);
            way(x, 0, 0, 0, 1, -1);
            // All six, each but one CELL far.
            LentAir y = new LentAir();
            y.valley(6, 1);
            for (int maker = 0; maker < 6; maker++) {
                y.maker(0, maker, 0);
                y.cry(maker, 2);
            }
            way(y, 0, 5, 23, 6, 1);
            way(y, 5, 0, 0, 6, 4);
            way(y, 5, 5, 0, 1, -1);
        });
        Boundary.asks("none.", () -> {
            LentAir x = inARow();
            way(x, 0, 4, 0, -1, -1);
            way(x, 4, 0, 0, 4, 2);
            x.cry(1, 0);
            x.cry(3, 0);
            way(x, 0, 2, 0, -1, -1);
        });
        Boundary.asks("NEXT: who is behind the first one on such a way, of like ones the least.", () -> {
            LentAir x = inARow();
            // 1 and 3 stand in one CELL.
            way(x, 0, 2, 0, 3, 1);
            way(x, 2, 0, 0, 3, 1);
            x.cry(1, 0);
            way(x, 0, 2, 0, 3, 3);
            way(x, 0, 3, 0, 2, 3);
            // 0 may be the least; the first one is not behind himself.
            x.cry(1, 3);
            x.cry(2, 5);
            way(x, 2, 0, 0, 2, 0);
            LentAir y = Boundary.told("valley 5 1;maker 0 2 0;maker 0 4 0;maker 0 0 0;");
            y.cry(0, 3);
            y.cry(1, 3);
            y.cry(2, 3);
            way(y, 1, 2, 0, 3, 0);
            way(y, 2, 1, 0, 3, 0);
        });
    }

    private static void pairs(String where, LentAir x, int hour, int... pairs) {
        due("who(" + hour + ", -1) " + where, x.who(hour, -1), pairs.length);
        for (int i = 0; i < pairs.length; i++) {
            due("who(" + hour + ", " + i + ") " + where, x.who(hour, i), pairs[i]);
        }
        due("who(" + hour + ", " + pairs.length + ") " + where, x.who(hour, pairs.length), -5);
    }

    private static void who() {
        Boundary.asks("WHO: MAKERS and LOUD (1 to 20) by whose SOUND in an HOUR all CELLS told as EARS hear it, ECHOES too, "
            + "and no DEAF one:", () -> {
            LentAir x = Boundary.told("valley 6 1;air 3 1;maker 0 0 0;maker 2 1 0;leave 0 1 9 9 20;");
            x.ears(0, 2);
            pairs("where CELL 0 is DEAF", x, 0, 101, 102);
            x.ears(1, 2);
            pairs("where no one may be", x, 0);
            x.ears(0, 1);
            x.ears(1, 0);
            x.ears(2, 2);
            pairs("between EARS and DEAF", x, 0, 1, 2);
            x.ears(2, 1);
            x.ears(4, 2);
            pairs("in the HOUR of the LEAVE", x, 9, 3, 4, 103, 104, 105, 106, 107, 108, 109, 110, 111, 112, 113, 114, 115, 116,
                117, 118, 119, 120);
            due("who(8, -1) in another HOUR", x.who(8, -1), 36);
            // No one told: every SOUND, from 1 to 20; no MAKERS: none.
            pairs("without MAKERS", new LentAir(), 23);
            // By an ECHO of 4 or more in the CLIFF.
            LentAir e = Boundary.told("valley 3 1;ground 1 2;ground 2 1;maker 3 0 0;");
            e.ears(2, 2);
            pairs("where an ECHO is too much", e, 0, 1, 2, 3, 4, 5);
            e.ears(2, 1);
            pairs("where an ECHO is due", e, 0, 6, 7, 8, 9, 10, 11, 12, 13, 14, 15, 16, 17, 18, 19, 20);
        });
        Boundary.asks("pairs (100 MAKER and LOUD, rising): how many, the i-th.", () -> {
            LentAir x = new LentAir();
            for (int maker = 0; maker < 6; maker++) {
                x.maker(maker, 0, 0);
            }
            due("who(0, -1): all", x.who(0, -1), 120);
            for (int i = 0; i < 120; i++) {
                due("who(0, " + i + ")", x.who(0, i), 100 * (i / 20) + i % 20 + 1);
            }
            due("who(0, 120)", x.who(0, 120), -5);
        });
    }

    private static void still() {
        Boundary.asks("STILL: the fewest LEAVES (bits; of like ones the least) without which no MAKER, all so LOUD, in an HOUR, "
            + "is heard in a CELL, by ECHOES neither;", () -> {
            LentAir x = Boundary.told("valley 3 1;air 1 1;air 2 2;maker 0 0 0;maker 1 0 0;");
            due("still(9, 0, 2): none needed", x.still(9, 0, 2), 0);
            x.leave(0, 1, 0, 23, 20);
            x.leave(0, 2, 0, 23, 20);
            due("still(9, 0, 2): of like ones the least", x.still(9, 0, 2), 1);
            due("still(9, 0, 1)", x.still(9, 0, 1), 1);
            due("still(2, 0, 2): not so LOUD", x.still(2, 0, 2), 0);
            due("still(3, 0, 2): just so LOUD", x.still(3, 0, 2), 1);
            x.leave(1, 1, 4, 4, 20);
            x.leave(1, 2, 0, 23, 20);
            due("still(9, 3, 2): the other one has no LEAVE then", x.still(9, 3, 2), 1);
            due("still(9, 4, 2): he has", x.still(9, 4, 2), 5);
            due("still(9, 5, 2): he has no more", x.still(9, 5, 2), 1);
            x.leave(0, 1, 0, 23, 20);
            due("still(9, 3, 2): one is fewer than two", x.still(9, 3, 2), 2);
            due("still(9, 3, 1)", x.still(9, 3, 1), 17);
            // One of more bits is fewer than two of less.
            LentAir f = Boundary.told("valley 3 1;air 1 1;air 2 2;maker 0 0 0;leave 0 1 0 0 20;leave 0 1 0 0 9;leave 0 2 0 0 9;");
            due("still(9, 0, 2): 4 or 3", f.still(9, 0, 2), 4);
            due("still(9, 0, 1)", f.still(9, 0, 1), 3);
            due("count(3): all stay", x.count(3), 5);
            // LEAVES in the AIR of OWNER 0, who is another one here.
            LentAir o = Boundary.told("valley 2 1;air 0 1;maker 0 0 1;leave 0 1 0 23 20;");
            due("still(9, 0, 1): none needed", o.still(9, 0, 1), 0);
            o.leave(0, 0, 0, 23, 20);
            due("still(9, 0, 1)", o.still(9, 0, 1), 2);
            // All 8 at once.
            LentAir y = Boundary.told("valley 2 1;air 1 1;maker 0 0 0;");
            for (int i = 0; i < 8; i++) {
                y.leave(0, 1, 0, 23, 20);
            }
            due("still(2, 0, 1): all 8", y.still(2, 0, 1), 255);
            due("still(1, 0, 1)", y.still(1, 0, 1), 0);
            // The ECHO comes into the HEDGE by the LEAVE of one who is the CLIFF's OWNER.
            LentAir e = Boundary.told("valley 4 1;ground 1 2;ground 2 1;ground 3 1;air 2 1;maker 3 0 0;maker 0 3 0;leave 1 1 0 9 20;");
            due("still(6, 9, 2): by an ECHO", e.still(6, 9, 2), 1);
            due("still(6, 10, 2): by none", e.still(6, 10, 2), 0);
            due("still(5, 9, 2): the ECHO comes not so far", e.still(5, 9, 2), 0);
            // Without LEAVE 0 the ECHO of CELL 0 is gone, but that of CELL 2 is no longer too LOUD.
            LentAir t = tooLoudAnEcho();
            due("heard(0, 20, 0, 1)", t.heard(0, 20, 0, 1), 3);
            due("still(20, 0, 1): LEAVE 0 is not enough", t.still(20, 0, 1), 3);
            t.take(0);
            due("heard(0, 20, 0, 1) without LEAVE 0", t.heard(0, 20, 0, 1), 5);
            due("still(20, 0, 1) without LEAVE 0", t.still(20, 0, 1), 1);
            t.undo();
            t.put(0, 0, 0);
            due("still(20, 0, 1): all LEAVES stay", t.still(20, 0, 1), 0);
            due("still() without MAKERS", new LentAir().still(20, 23, 24), 0);
        });
        Boundary.asks("none (a MAKER is heard in his own CELL always).", () -> {
            LentAir x = Boundary.told("valley 3 1;air 0 1;air 1 1;maker 0 0 0;leave 0 1 0 23 20;");
            due("still(1, 0, 0)", x.still(1, 0, 0), -1);
            due("still(20, 23, 0)", x.still(20, 23, 0), -1);
            due("still(1, 0, 1)", x.still(1, 0, 1), 0);
            due("still(2, 0, 1)", x.still(2, 0, 1), 1);
            x.put(1, 1, 0);
            due("still(2, 0, 1): AIR of himself", x.still(2, 0, 1), -1);
            // THUNDER needs no LEAVE that could be taken back, a HORN not where it is 3 or less.
            LentAir y = Boundary.told("valley 3 1;air 1 1;air 2 1;maker 5 0 0;");
            due("still(2, 0, 1)", y.still(2, 0, 1), -1);
            due("still(1, 0, 1)", y.still(1, 0, 1), 0);
            LentAir z = Boundary.told("valley 3 1;air 1 1;air 2 1;maker 4 0 0;leave 0 1 0 23 20;");
            due("still(4, 0, 1) of a HORN", z.still(4, 0, 1), -1);
            due("still(5, 0, 1) of a HORN", z.still(5, 0, 1), 1);
        });
    }

    private static void carriedAndMend() {
        Boundary.asks("CARRIED: CELLS in which a SOUND is heard by ECHOES alone: how many, the i-th.", () -> {
            LentAir x = barked();
            // The ECHO is 3 in CELL 2, which hears the bark itself, too.
            due("carried(0, 10, 0, -1)", x.carried(0, 10, 0, -1), 2);
            due("carried(0, 10, 0, 0)", x.carried(0, 10, 0, 0), 3);
            due("carried(0, 10, 0, 1)", x.carried(0, 10, 0, 1), 4);
            due("carried(0, 10, 0, 2)", x.carried(0, 10, 0, 2), -5);
            due("carried(0, 8, 0, -1)", x.carried(0, 8, 0, -1), 1);
            due("carried(0, 6, 0, -1): the ECHO of 1 stays in CELL 2", x.carried(0, 6, 0, -1), 0);
            due("carried(0, 6, 0, 0)", x.carried(0, 6, 0, 0), -5);
            due("carried(0, 10, 5, -1)", x.carried(0, 10, 5, -1), 2);
            due("carried(0, 10, 6, -1): the LEAVE is over", x.carried(0, 10, 6, -1), 0);
            LentAir y = Boundary.told("valley 3 1;ground 0 1;ground 1 2;maker 3 2 0;");
            due("carried(0, 6, 0, 0): CELL 0", y.carried(0, 6, 0, 0), 0);
            due("carried(0, 6, 0, 1)", y.carried(0, 6, 0, 1), -5);
        });
        Boundary.asks("MEND: the fewest CLIFFS (bits of CELLS; of like ones the least) that, were they GRASS, leave no CELL so CARRIED", () -> {
            LentAir x = barked();
            due("mend(0, 10, 0)", x.mend(0, 10, 0), 4);
            due("mend(0, 6, 0): nothing is CARRIED", x.mend(0, 6, 0), 0);
            due("mend(0, 10, 6)", x.mend(0, 10, 6), 0);
            due("put(0, 2, 2): the CLIFF stays", x.put(0, 2, 2), 2);
            // A CLIFF that is not heard may stay, and one that carries to no CELL but what hears the SOUND itself.
            x.put(0, 5, 2);
            due("mend(0, 10, 0) with two CLIFFS", x.mend(0, 10, 0), 4);
            LentAir w = Boundary.told("valley 4 1;ground 0 2;ground 2 2;ground 3 1;maker 3 1 0;");
            due("mend(0, 6, 0) with one on either side", w.mend(0, 6, 0), 4);
            due("mend(0, 5, 0): no ECHO comes into the HEDGE", w.mend(0, 5, 0), 0);
            // CELLS 0 and 35, both of which carry: the WHISPER's ECHOES come into HEDGES.
            LentAir y = new LentAir();
            y.valley(6, 6);
            for (int cell : new int[] {0, 35}) {
                y.put(0, cell, 2);
            }
            for (int cell : new int[] {1, 34}) {
                y.put(0, cell, 1);
            }
            y.maker(3, 15, 0);
            due("carried(0, 20, 0, -1)", y.carried(0, 20, 0, -1), 2);
            due("mend(0, 20, 0): CELLS 0 and 35", y.mend(0, 20, 0), 1L << 35 | 1);
            // Where two carry into one CELL, both must go.
            LentAir z = Boundary.told("valley 3 2;ground 1 2;ground 3 2;ground 4 1;maker 3 0 0;");
            due("mend(0, 6, 0)", z.mend(0, 6, 0), 10);
        });
        Boundary.asks("(8 CLIFFS in THE VALLEY at most).", () -> {
            LentAir x = new LentAir();
            x.maker(3, 12, 0);
            for (int cell = 0; cell < 8; cell++) {
                x.put(0, cell, 2);
                due("mend(0, 9, 0) with " + (cell + 1), x.mend(0, 9, 0), 0);
            }
            x.put(0, 24, 2);
            due("mend(0, 9, 0) with 9, though one is not heard", x.mend(0, 9, 0), -20);
            due("mend(0, 1, 0) with 9, though none is heard", x.mend(0, 1, 0), -20);
            x.put(0, 0, 1);
            due("mend(0, 9, 0) with 8 again", x.mend(0, 9, 0), 0);
            x.put(0, 12, 2);
            due("mend(0, 1, 0) with his own CELL", x.mend(0, 1, 0), -20);
        });
    }

    private static void lets() {
        Boundary.asks("LETS: an OWNER lets his AIR to another one (or to none, at first).", () -> {
            LentAir x = new LentAir();
            for (int owner = 0; owner < 6; owner++) {
                int other = owner == 5 ? 0 : 5;
                due("let(" + owner + ", -1) at first", x.let(owner, -1), -1);
                due("let(" + owner + ", " + other + ")", x.let(owner, other), -1);
                due("let(" + owner + ", " + owner + "): to himself", x.let(owner, owner), -2);
                due("let(" + owner + ", 6)", x.let(owner, 6), -2);
                due("let(" + owner + ", -2)", x.let(owner, -2), -2);
                due("let(" + owner + ", -1)", x.let(owner, -1), other);
            }
            // Two may let to one another, and to one.
            due("let(0, 1)", x.let(0, 1), -1);
            due("let(1, 0)", x.let(1, 0), -1);
            due("let(2, 0)", x.let(2, 0), -1);
            // It changes nothing of whose AIR it is.
            due("put(1, 0, 0)", x.put(1, 0, 0), 0);
        });
        Boundary.asks("LIABLE for an OWNER: whom one comes to by LETS, who lets to none;", () -> {
            LentAir x = new LentAir();
            for (int owner = 0; owner < 6; owner++) {
                due("liable(" + owner + "): he himself", x.liable(owner), owner);
            }
            int[] chain = {3, 0, 5, 2, 4, 1};
            for (int i = 0; i < 5; i++) {
                x.let(chain[i], chain[i + 1]);
                due("liable(3) by " + (i + 1), x.liable(3), chain[i + 1]);
            }
            due("liable(2) from within", x.liable(2), 1);
            due("liable(1), the last one", x.liable(1), 1);
        });
        Boundary.asks("none: a ring.", () -> {
            LentAir x = new LentAir();
            x.let(0, 1);
            x.let(1, 0);
            x.let(5, 1);
            due("liable(0): a ring of two", x.liable(0), -1);
            due("liable(5): into one", x.liable(5), -1);
            due("liable(2): on none", x.liable(2), 2);
            for (int owner = 0; owner < 6; owner++) {
                x.let(owner, (owner + 1) % 6);
            }
            for (int owner = 0; owner < 6; owner++) {
                due("liable(" + owner + "): a ring of six", x.liable(owner), -1);
            }
            x.let(3, -1);
            due("liable(4): the ring is broken", x.liable(4), 3);
            due("status(0)", x.status(0), 0);
        });
        Boundary.asks("RINGS: OWNERS (bits) who are on one.", () -> {
            LentAir x = new LentAir();
            due("rings(): none", x.rings(), 0);
            for (int owner = 0; owner < 6; owner++) {
                x.let(owner, (owner + 1) % 6);
            }
            due("rings(): one of six", x.rings(), 63);
            x.let(5, 4);
            due("rings(): who only comes to one is on none", x.rings(), 48);
            x.let(1, 0);
            due("rings(): two", x.rings(), 51);
            x.let(3, 2);
            due("rings(): three", x.rings(), 63);
            x.let(0, -1);
            due("rings(): two of them", x.rings(), 60);
            LentAir y = new LentAir();
            for (int owner = 0; owner < 5; owner++) {
                y.let(owner, owner + 1);
            }
            due("rings(): a chain of six is none", y.rings(), 0);
            y.let(5, 1);
            due("rings(): of five", y.rings(), 62);
        });
    }

    private static void hours() {
        Boundary.asks("FIRST HOUR from a told one on (0 .. 23, not beyond 23) in which a MAKER, so LOUD, is heard in a CELL; none.", () -> {
            LentAir x = Boundary.told("valley 3 1;air 1 1;air 2 1;maker 0 0 0;leave 0 1 7 9 5;leave 0 1 23 23 9;");
            int[] from = {0, 6, 7, 8, 9, 10, 22, 23};
            int[] first = {7, 7, 7, 8, 9, 23, 23, 23};
            for (int i = 0; i < from.length; i++) {
                due("first(0, 6, " + from[i] + ", 2)", x.first(0, 6, from[i], 2), first[i]);
            }
            due("first(0, 7, 0, 2): too LOUD at 7", x.first(0, 7, 0, 2), 23);
            due("first(0, 11, 0, 2): too LOUD at all HOURS", x.first(0, 11, 0, 2), -1);
            due("first(0, 2, 0, 2): not so far", x.first(0, 2, 0, 2), -1);
            due("first(0, 1, 0, 0): at once", x.first(0, 1, 0, 0), 0);
            due("first(0, 1, 23, 0): at once", x.first(0, 1, 23, 0), 23);
            x.take(1);
            due("first(0, 6, 10, 2): not beyond 23", x.first(0, 6, 10, 2), -1);
            due("first(0, 6, 23, 2)", x.first(0, 6, 23, 2), -1);
            due("first(0, 6, 24, 2)", x.first(0, 6, 24, 2), -2);
            due("first(0, 6, -1, 2)", x.first(0, 6, -1, 2), -2);
            x.leave(0, 1, 0, 0, 5);
            due("first(0, 6, 0, 2)", x.first(0, 6, 0, 2), 0);
            due("first(0, 6, 1, 2)", x.first(0, 6, 1, 2), 7);
        });
        Boundary.asks("PEAL: the LOUD (1 .. 20) by which a MAKER is heard in most CELLS in an HOUR, of like ones the least: in how many.", () -> {
            LentAir one = Boundary.told("valley 1 1;maker 0 0 0;");
            peal(one, 0, 1, 1);
            peal(one, 23, 1, 1);
            LentAir x = Boundary.told("valley 6 1;air 3 1;maker 0 0 0;leave 0 1 5 5 4;");
            peal(x, 0, 3, 3);
            peal(x, 5, 6, 6);
            peal(x, 6, 3, 3);
            // ECHOES count: the HEDGE in CELL 2 hears an ECHO of 4 or more in the CLIFF, alone.
            LentAir e = Boundary.told("valley 3 1;ground 1 2;ground 2 1;maker 3 0 0;");
            peal(e, 0, 6, 3);
            // A way of 21 CELLS in AIR of himself: 20 comes to 20 of them.
            LentAir far = new LentAir();
            far.valley(6, 6);
            for (int cell : new int[] {6, 7, 8, 9, 10, 19, 20, 21, 22, 23, 30, 31, 32, 33, 34}) {
                far.put(1, cell, 1);
            }
            far.maker(0, 0, 0);
            peal(far, 0, 20, 20);
            // What is too LOUD is heard in fewer CELLS: 2 is heard in both, what is more in one.
            LentAir low = Boundary.told("valley 2 1;air 1 1;maker 0 0 0;leave 0 1 0 23 1;");
            peal(low, 0, 2, 2);
        });
    }

    private static void peal(LentAir x, int hour, int loud, int cells) {
        due("peal(0, " + hour + ", 0)", x.peal(0, hour, 0), loud);
        due("peal(0, " + hour + ", 1)", x.peal(0, hour, 1), cells);
    }

    private static void due(String call, long got, long want) {
        Boundary.due(call, got, want);
    }
}
