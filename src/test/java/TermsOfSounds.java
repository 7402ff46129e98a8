/** The sentences of "Terms" on SOUNDS, KINDS and ECHOES. */
final class TermsOfSounds {
    private TermsOfSounds() {
    }

    static void all() {
        sounds();
        kinds();
        echoes();
    }

    private static void sounds() {
        Boundary.asks("A SOUND of a MAKER: so LOUD (1 .. 20) in an HOUR:", () -> {
            LentAir x = new LentAir();
            x.maker(0, 0, 0);
            for (int loud : new int[] {0, 21, -20}) {
                due("heard(0, " + loud + ", 0, 0)", x.heard(0, loud, 0, 0), -2);
            }
            for (int loud = 1; loud <= 20; loud++) {
                due("heard(0, " + loud + ", 0, 0)", x.heard(0, loud, 0, 0), loud);
            }
            for (int hour : new int[] {-1, 24}) {
                due("heard(0, 1, " + hour + ", 0)", x.heard(0, 1, hour, 0), -2);
            }
            due("heard(0, 1, 23, 0)", x.heard(0, 1, 23, 0), 1);
        });
        Boundary.asks("in his own CELL it is as LOUD as that (whatever LEAVE there is).", () -> {
            LentAir x = Boundary.told("valley 2 1;air 0 1;air 1 1;maker 0 0 0;maker 3 0 0;maker 0 0 1;leave 0 1 5 5 1;");
            for (int loud : new int[] {1, 2, 20}) {
                due("heard() in another's AIR, no LEAVE", x.heard(0, loud, 0, 0), loud);
                due("heard() in another's AIR, a LEAVE of 1", x.heard(0, loud, 5, 0), loud);
            }
            for (int ground = 0; ground < 3; ground++) {
                x.put(0, 0, ground);
                due("heard() of a WHISPER on GROUND " + ground, x.heard(1, 20, 0, 0), 20);
            }
            due("far(): nowhere else", x.far(0, 20, 0), 1);
        });
        Boundary.asks("From a CELL it goes to those beside it (4), step by step, as told by KINDS, each under the one told;", () -> {
            LentAir x = new LentAir();
            x.valley(3, 3);
            x.maker(0, 4, 0);
            x.maker(0, 0, 0);
            x.maker(0, 2, 0);
            x.maker(0, 3, 0);
            x.maker(0, 8, 0);
            Boundary.louds(x, 0, 2, 0, 0, 1, 0, 1, 2, 1, 0, 1, 0);
            Boundary.louds(x, 1, 2, 0, 2, 1, 0, 1, 0, 0, 0, 0, 0);
            Boundary.louds(x, 2, 2, 0, 0, 1, 2, 0, 0, 1, 0, 0, 0);
            Boundary.louds(x, 3, 2, 0, 1, 0, 0, 2, 1, 0, 1, 0, 0);
            Boundary.louds(x, 4, 2, 0, 0, 0, 0, 0, 0, 1, 0, 1, 2);
            Boundary.louds(x, 4, 5, 0, 1, 2, 3, 2, 3, 4, 3, 4, 5);
        });
        Boundary.asks("it is heard in each CELL as LOUD as the loudest way to it makes it, of all ways each step of which may be,", () -> {
            // Behind the HEDGE in CELL 1 is CELL 2: 2 steps through it for a BELL (3 less), 4 around it.
            LentAir x = Boundary.told("valley 3 2;ground 1 1;maker 0 0 0;maker 1 0 0;maker 5 0 0;");
            Boundary.louds(x, 0, 9, 0, 9, 8, 5, 8, 7, 6);
            Boundary.louds(x, 1, 9, 0, 9, 8, 6, 8, 7, 6);
            Boundary.louds(x, 2, 9, 0, 9, 8, 7, 8, 7, 6);
            x.put(1, 4, 1);
            Boundary.louds(x, 0, 9, 0, 9, 8, 0, 8, 0, 0);
            x.put(1, 1, 1);
            Boundary.louds(x, 1, 9, 0, 9, 0, 0, 8, 0, 0);
        });
        Boundary.asks("if that is above 0", () -> {
            LentAir x = Boundary.told("valley 4 1;maker 0 0 0;maker 2 0 0;maker 5 0 0;");
            Boundary.louds(x, 0, 1, 0, 1, 0, 0, 0);
            Boundary.louds(x, 0, 3, 0, 3, 2, 1, 0);
            Boundary.louds(x, 1, 2, 0, 2, 0, 0, 0);
            Boundary.louds(x, 1, 3, 0, 3, 1, 0, 0);
            Boundary.louds(x, 2, 2, 0, 2, 1, 0, 0);
            due("far(0, 3, 0): 0 is not heard", x.far(0, 3, 0), 3);
            due("far(1, 2, 0)", x.far(1, 2, 0), 1);
            due("far(1, 3, 0)", x.far(1, 3, 0), 2);
        });
        Boundary.asks("(a way that is less LOUD may go where a louder one may not).", () -> {
            // CELL 2 is two steps off, or four below: LEAVE there is but for 5.
            LentAir x = Boundary.told("valley 3 2;air 1 1;air 2 2;maker 0 0 0;leave 0 1 0 23 20;leave 0 2 0 23 5;");
            Boundary.louds(x, 0, 7, 0, 7, 6, 5, 6, 5, 4);
            Boundary.louds(x, 0, 8, 0, 8, 7, 4, 7, 6, 5);
            Boundary.louds(x, 0, 9, 0, 9, 8, 5, 8, 7, 6);
            Boundary.louds(x, 0, 10, 0, 10, 9, 4, 9, 8, 7);
            // Also a way that goes to and fro.
            LentAir y = Boundary.told("valley 3 1;air 2 2;maker 0 1 0;leave 0 2 0 23 5;");
            Boundary.louds(y, 0, 6, 0, 5, 6, 5);
            Boundary.louds(y, 0, 7, 0, 6, 7, 4);
            Boundary.louds(y, 0, 8, 0, 7, 8, 5);
        });
    }

    private static void kinds() {
        Boundary.asks("0 VOICE: 1 less by each step;", () -> {
            LentAir x = Boundary.told("valley 6 1;maker 0 0 0;");
            Boundary.louds(x, 0, 5, 0, 5, 4, 3, 2, 1, 0);
            Boundary.louds(x, 0, 6, 0, 6, 5, 4, 3, 2, 1);
            Boundary.louds(x, 0, 20, 0, 20, 19, 18, 17, 16, 15);
        });
        Boundary.asks("no step from a HEDGE;", () -> {
            LentAir x = Boundary.told("valley 4 1;ground 2 1;maker 0 0 0;maker 0 2 0;");
            Boundary.louds(x, 0, 20, 0, 20, 19, 18, 0);
            Boundary.louds(x, 1, 20, 0, 0, 0, 20, 0);
        });
        Boundary.asks("only into CELLS where there is LEAVE (in that HOUR, for so LOUD as it is there).", () -> {
            LentAir x = Boundary.told("valley 3 1;air 1 1;air 2 2;maker 0 0 0;maker 0 0 0;leave 0 1 3 5 8;");
            for (int hour = 0; hour < 24; hour++) {
                Boundary.louds(x, 0, 9, hour, 9, hour >= 3 && hour <= 5 ? 8 : 0, 0);
            }
            Boundary.louds(x, 0, 10, 4, 10, 0, 0);
            Boundary.louds(x, 0, 2, 4, 2, 1, 0);
            Boundary.louds(x, 1, 9, 4, 9, 0, 0);
            // For CELL 2 its own LEAVE: of the HOUR 5 on, for 7.
            x.leave(0, 2, 5, 23, 7);
            Boundary.louds(x, 0, 9, 5, 9, 8, 7);
            Boundary.louds(x, 0, 9, 4, 9, 8, 0);
            Boundary.louds(x, 0, 9, 6, 9, 0, 0);
            // Of two LEAVES the one that is for so LOUD.
            x.leave(0, 1, 5, 5, 19);
            Boundary.louds(x, 0, 20, 5, 20, 19, 6);
            Boundary.louds(x, 0, 20, 4, 20, 0, 0);
        });
        Boundary.asks("1 BELL (under VOICE): as a VOICE, but it goes on from a HEDGE, too, 1 less by that step more.", () -> {
            LentAir x = Boundary.told("valley 5 1;ground 1 1;ground 2 1;air 4 1;maker 1 0 0;maker 1 1 0;");
            Boundary.louds(x, 0, 8, 0, 8, 7, 5, 3, 0);
            Boundary.louds(x, 0, 6, 0, 6, 5, 3, 1, 0);
            Boundary.louds(x, 0, 5, 0, 5, 4, 2, 0, 0);
            Boundary.louds(x, 0, 3, 0, 3, 2, 0, 0, 0);
            Boundary.louds(x, 1, 2, 0, 0, 2, 0, 0, 0);
            Boundary.louds(x, 1, 3, 0, 1, 3, 1, 0, 0);
            x.leave(0, 1, 0, 0, 2);
            Boundary.louds(x, 0, 8, 0, 8, 7, 5, 3, 2);
        });
        Boundary.asks("2 DOG (under VOICE): 2 less by each step.", () -> {
            LentAir x = Boundary.told("valley 5 1;ground 3 1;maker 2 0 0;maker 2 3 0;air 4 0;");
            Boundary.louds(x, 0, 7, 0, 7, 5, 3, 1, 0);
            Boundary.louds(x, 0, 20, 0, 20, 18, 16, 14, 0);
            Boundary.louds(x, 0, 2, 0, 2, 0, 0, 0, 0);
            Boundary.louds(x, 0, 1, 0, 1, 0, 0, 0, 0);
            Boundary.louds(x, 1, 20, 0, 0, 0, 0, 20, 0);
            x.put(1, 1, 1);
            Boundary.louds(x, 0, 7, 0, 7, 0, 0, 0, 0);
            x.leave(0, 1, 0, 0, 5);
            Boundary.louds(x, 0, 7, 0, 7, 5, 3, 1, 0);
            Boundary.louds(x, 0, 8, 0, 8, 0, 0, 0, 0);
        });
        Boundary.asks("3 WHISPER (under DOG): as a DOG, but nothing comes into a HEDGE.", () -> {
            LentAir x = Boundary.told("valley 4 1;ground 2 1;maker 3 0 0;maker 3 2 0;");
            Boundary.louds(x, 0, 20, 0, 20, 18, 0, 0);
            Boundary.louds(x, 0, 3, 0, 3, 1, 0, 0);
            Boundary.louds(x, 1, 20, 0, 0, 0, 20, 0);
            // No LEAVE opens a HEDGE, nor AIR of himself.
            x.put(1, 2, 1);
            x.leave(0, 1, 0, 0, 20);
            Boundary.louds(x, 0, 20, 0, 20, 18, 0, 0);
            x.put(0, 2, 0);
            Boundary.louds(x, 0, 20, 0, 20, 18, 16, 14);
        });
        Boundary.asks("4 HORN (under BELL): as a BELL; it needs no LEAVE where it is 3 or less.", () -> {
            LentAir x = Boundary.told("valley 5 1;air 1 1;air 2 1;air 3 1;air 4 1;maker 4 0 0;maker 1 0 0;");
            Boundary.louds(x, 0, 4, 0, 4, 3, 2, 1, 0);
            Boundary.louds(x, 0, 3, 0, 3, 2, 1, 0, 0);
            Boundary.louds(x, 0, 5, 0, 5, 0, 0, 0, 0);
            Boundary.louds(x, 1, 4, 0, 4, 0, 0, 0, 0);
            x.leave(0, 1, 0, 0, 4);
            Boundary.louds(x, 0, 5, 0, 5, 4, 3, 2, 1);
            Boundary.louds(x, 0, 6, 0, 6, 0, 0, 0, 0);
            x.put(0, 1, 1);
            Boundary.louds(x, 0, 5, 0, 5, 4, 2, 1, 0);
            Boundary.louds(x, 0, 5, 1, 5, 0, 0, 0, 0);
        });
        Boundary.asks("5 THUNDER (under BELL): 1 less by each step, whatever GROUND; needs no LEAVE.", () -> {
            LentAir x = Boundary.told("valley 5 1;ground 0 1;ground 1 1;ground 2 2;air 0 1;air 1 1;air 2 2;air 3 3;air 4 4;maker 5 0 0;");
            Boundary.louds(x, 0, 4, 0, 4, 3, 2, 1, 0);
            Boundary.louds(x, 0, 20, 23, 20, 19, 18, 17, 16);
            Boundary.louds(x, 0, 1, 0, 1, 0, 0, 0, 0);
        });
    }

    /** To a HEDGE no WHISPER comes: what is heard in CELL 2 is the ECHO of the CLIFF in CELL 1. */
    private static LentAir whispered() {
        return Boundary.told("valley 4 1;ground 1 2;ground 2 1;maker 3 0 0;");
    }

    private static void echoes() {
        Boundary.asks("ECHO: a CLIFF in which a SOUND is heard (but its own CELL) gives it back once,", () -> {
            LentAir x = whispered();
            Boundary.louds(x, 0, 6, 0, 6, 4, 1, 0);
            x.put(0, 1, 0);
            Boundary.louds(x, 0, 6, 0, 6, 4, 0, 0);
            // His own CELL gives nothing back, but as soon as he is not in it.
            x.put(0, 0, 2);
            x.put(0, 1, 1);
            Boundary.louds(x, 0, 20, 0, 20, 0, 0, 0);
            x.valley(3, 1);
            x.put(0, 1, 2);
            x.put(0, 2, 1);
            x.maker(3, 1, 0);
            Boundary.louds(x, 0, 20, 0, 18, 20, 0);
            x.maker(3, 0, 0);
            Boundary.louds(x, 1, 20, 0, 20, 18, 8);
            // Where the SOUND is not heard, there is none to give back.
            x.put(1, 1, 1);
            x.maker(0, 2, 1);
            Boundary.louds(x, 1, 20, 0, 20, 0, 0);
        });
        Boundary.asks("as a VOICE of the OWNER of its AIR,", () -> {
            LentAir x = whispered();
            // 1 less by each step, into the HEDGE, from it no step.
            Boundary.louds(x, 0, 20, 0, 20, 18, 8, 0);
            // The CLIFF's OWNER has no LEAVE in the AIR of OWNER 0; OWNER 0 has in his.
            x.put(1, 1, 1);
            x.leave(0, 1, 0, 23, 20);
            Boundary.louds(x, 0, 20, 0, 20, 18, 0, 0);
            x.put(1, 2, 1);
            Boundary.louds(x, 0, 20, 0, 20, 18, 8, 0);
        });
        Boundary.asks("half as LOUD (cut; 0: none) as it is heard there (no ECHO), from its CELL on:", () -> {
            LentAir x = whispered();
            int[] inHedge = {0, 0, 0, 0, 0, 0, 1, 1, 2, 2, 3};
            for (int loud = 3; loud <= 10; loud++) {
                due("heard(0, " + loud + ", 0, 2)", x.heard(0, loud, 0, 2), inHedge[loud]);
            }
            due("heard(0, 20, 0, 2)", x.heard(0, 20, 0, 2), 8);
            // Heard 1 so LOUD, half is none: the CLIFF is not even the last CELL that is CARRIED.
            due("far(0, 3, 0)", x.far(0, 3, 0), 2);
            // CELL 2 hears the DOG's bark but 1 so LOUD, the ECHO of CELL 1 as 4: CELL 2 gives back none.
            LentAir y = Boundary.told("valley 4 1;ground 1 2;ground 2 2;air 1 1;air 2 2;air 3 3;maker 2 0 0;maker 0 0 1;maker 0 0 2;"
                + "leave 0 1 0 0 20;leave 0 2 0 0 1;");
            y.leave(1, 2, 0, 0, 20);
            y.leave(2, 3, 0, 0, 20);
            Boundary.louds(y, 0, 13, 0, 13, 11, 4, 0);
        });
        Boundary.asks("in his own AIR, and by LEAVES of all MAKERS who are he.", () -> {
            // The CLIFF of OWNER 1 is heard as 8, gives back 4: CELL 3 is OWNER 2's, in CELL 5 are two who are OWNER 1.
            LentAir x = Boundary.told("valley 6 1;ground 2 2;air 2 1;air 3 2;air 4 1;air 5 2;maker 0 0 0;maker 0 5 1;maker 0 5 1;leave 0 1 0 23 8;");
            Boundary.louds(x, 0, 10, 5, 10, 9, 8, 0, 0, 0);
            // A LEAVE of one who is OWNER 0 is not the CLIFF's.
            x.maker(0, 5, 0);
            x.leave(3, 2, 5, 5, 20);
            Boundary.louds(x, 0, 10, 5, 10, 9, 8, 0, 0, 0);
            x.leave(1, 2, 5, 9, 3);
            Boundary.louds(x, 0, 10, 4, 10, 9, 8, 0, 0, 0);
            Boundary.louds(x, 0, 10, 5, 10, 9, 8, 3, 2, 1);
            Boundary.louds(x, 0, 10, 9, 10, 9, 8, 3, 2, 1);
            Boundary.louds(x, 0, 10, 10, 10, 9, 8, 0, 0, 0);
            x.take(2);
            x.leave(1, 2, 0, 23, 2);
            Boundary.louds(x, 0, 10, 4, 10, 9, 8, 0, 0, 0);
            x.leave(2, 2, 4, 4, 20);
            Boundary.louds(x, 0, 10, 4, 10, 9, 8, 3, 2, 1);
            Boundary.louds(x, 0, 10, 3, 10, 9, 8, 0, 0, 0);
        });
        Boundary.asks("What is heard in a CELL is the loudest of all (ECHOES give none).", () -> {
            // The ECHO of 9 in CELL 1 is 8 in CELL 2, where the DOG's bark is 16 or may not be.
            LentAir x = Boundary.told("valley 5 1;ground 1 2;ground 3 2;air 1 1;air 2 1;air 3 1;air 4 3;maker 2 0 0;maker 0 0 1;"
                + "leave 0 1 0 0 18;leave 1 3 0 0 20;");
            Boundary.louds(x, 0, 20, 0, 20, 18, 16, 14, 6);
            x.put(1, 2, 3);
            // CELL 3 hears but the ECHO, and gives none back; CELL 4 hears the ECHO of CELL 1.
            Boundary.louds(x, 0, 20, 0, 20, 18, 8, 7, 6);
            x.take(1);
            x.leave(1, 3, 0, 0, 7);
            Boundary.louds(x, 0, 20, 0, 20, 18, 0, 0, 0);
            // CELL 2 hears the DOG's bark as 1, by a way to and fro, and the ECHO as 4.
            LentAir w = Boundary.told("valley 3 1;ground 1 2;air 1 1;air 2 2;maker 2 0 0;maker 0 0 1;leave 0 1 0 0 20;leave 0 2 0 0 1;"
                + "leave 1 2 0 0 20;");
            Boundary.louds(w, 0, 13, 0, 13, 11, 4);
            w.take(2);
            Boundary.louds(w, 0, 13, 0, 13, 11, 1);
            // Into the HEDGE in CELL 6 come two ECHOES alone: 7 of CELL 2's, 5 of CELL 7's.
            LentAir y = Boundary.told("valley 4 2;ground 2 2;ground 6 1;ground 7 2;maker 3 0 0;");
            due("heard(0, 20, 0, 6) by two ECHOES", y.heard(0, 20, 0, 6), 7);
            y.put(0, 2, 0);
            due("heard(0, 20, 0, 6) by one", y.heard(0, 20, 0, 6), 5);
            y.put(0, 7, 0);
            due("heard(0, 20, 0, 6) by none", y.heard(0, 20, 0, 6), 0);
            // An ECHO of an ECHO would come into the second HEDGE: AIR of OWNER 2, whose CLIFF hears but an ECHO.
            LentAir e = Boundary.told("valley 4 1;ground 1 2;ground 2 2;ground 3 1;air 1 1;air 2 2;air 3 2;maker 2 0 0;maker 0 0 1;"
                + "leave 0 1 0 0 20;leave 1 2 0 0 20;");
            Boundary.louds(e, 0, 20, 0, 20, 18, 8, 7);
            e.take(1);
            e.leave(1, 2, 0, 0, 8);
            e.put(1, 3, 3);
            e.maker(0, 0, 2);
            e.leave(2, 3, 0, 0, 20);
            Boundary.louds(e, 0, 20, 0, 20, 18, 8, 0);
        });
    }

    private static void due(String call, long got, long want) {
        Boundary.due(call, got, want);
    }
}
