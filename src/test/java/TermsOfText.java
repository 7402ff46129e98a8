/** The sentences of "Terms" on THE TEXT. */
final class TermsOfText {
    private TermsOfText() {
    }

    static void all() {
        items();
        tokens();
        faults();
        whatIsRead();
    }

    private static void items() {
        Boundary.asks("THE VALLEY is told by a TEXT (150 bytes at most)", () -> {
            // 150 bytes, the last of which ends the last ITEM.
            String text = "valley 2 3;" + " ".repeat(130) + "fee 5 99;";
            LentAir x = new LentAir();
            for (int i = 0; i < 150; i++) {
                due("type() number " + (i + 1), x.type(text.charAt(i)), i + 1);
            }
            due("type() number 151", x.type(';'), -4);
            due("count(5)", x.count(5), 150);
            due("read()", x.read(), 2);
            due("fee(5, 0)", x.fee(5, 0), 99);
            Boundary.type(x, text + ";");
            due("read(): what found no room is not there", x.read(), 2);
            Boundary.type(x, " " + text);
            due("read(): its end found no room", x.read(), -160);
        });
        Boundary.asks("of ITEMS, each ended by ; :", () -> {
            due("read() of one", read("valley 1 1;"), 1);
            due("read() of two", read("valley 1 1;fee 0 0;"), 2);
            due("read() of two, one not ended", read("valley 1 1;fee 0 0"), -28);
            due("read() of two, the first one not ended", read("valley 1 1 fee 0 0;"), -21);
            due("read() of one ended twice", read("valley 1 1;;"), -21);
            due("read() of one that is empty", read(";"), -10);
            // Of ITEMS that tell the same the last one stays.
            LentAir x = Boundary.told("valley 1 1;fee 3 8;fee 3 7;ground 0 1;ground 0 2;");
            due("fee(3, 0)", x.fee(3, 0), 7);
            due("put(0, 0, 0)", x.put(0, 0, 0), 2);
        });
        Boundary.asks("valley W H (once, first of all);", () -> {
            for (int side = 1; side <= 6; side++) {
                LentAir x = Boundary.told("valley " + side + " " + (7 - side) + ";");
                due("count(0)", x.count(0), side);
                due("count(1)", x.count(1), 7 - side);
            }
            Boundary.fault("valley 0 1;", 7);
            Boundary.fault("valley 7 1;", 7);
            Boundary.fault("valley 1 0;", 9);
            Boundary.fault("valley 1 7;", 9);
            Boundary.fault("valley 99 1;", 7);
            Boundary.fault("valley 1;", 8);
            Boundary.fault("valley;", 6);
            Boundary.fault("valley 1 1 1;", 11);
            Boundary.fault("fee 0 0;valley 1 1;", 0);
            Boundary.fault("valley 1 1;valley 1 1;", 11);
        });
        Boundary.asks("ground c g;", () -> {
            LentAir x = Boundary.told("valley 3 2;ground 0 2;ground 5 1;ground 4 2;ground 4 0;");
            int[] grounds = {2, 0, 0, 0, 0, 1};
            for (int cell = 0; cell < 6; cell++) {
                due("put(0, " + cell + ", 0)", x.put(0, cell, 0), grounds[cell]);
            }
            Boundary.fault("valley 3 2;ground 6 0;", 18);
            Boundary.fault("valley 3 2;ground 5 3;", 20);
            Boundary.fault("valley 6 6;ground 36 0;", 18);
            Boundary.fault("valley 3 2;ground 5;", 19);
            Boundary.fault("valley 3 2;ground 5 0 0;", 22);
        });
        Boundary.asks("air c o;", () -> {
            LentAir x = Boundary.told("valley 3 2;air 0 5;air 5 1;air 4 3;air 4 0;");
            int[] owners = {5, 0, 0, 0, 0, 1};
            for (int cell = 0; cell < 6; cell++) {
                due("put(1, " + cell + ", 0)", x.put(1, cell, 0), owners[cell]);
            }
            Boundary.fault("valley 3 2;air 6 0;", 15);
            Boundary.fault("valley 3 2;air 5 6;", 17);
            Boundary.fault("valley 3 2;air 5;", 16);
            Boundary.fault("valley 3 2;air 5 0 0;", 19);
        });
        Boundary.asks("fee o n;", () -> {
            LentAir x = Boundary.told("valley 1 1;fee 0 99;fee 5 0;fee 1 10;");
            int[] fees = {99, 10, 1, 1, 1, 0};
            for (int owner = 0; owner < 6; owner++) {
                due("fee(" + owner + ", 0)", x.fee(owner, 0), fees[owner]);
            }
            Boundary.fault("valley 1 1;fee 6 0;", 15);
            Boundary.fault("valley 1 1;fee 5 100;", 17);
            Boundary.fault("valley 1 1;fee 5;", 16);
            Boundary.fault("valley 1 1;fee 5 0 0;", 19);
        });
        Boundary.asks("maker KIND c o (KINDS as numbers);", () -> {
            LentAir x = Boundary.told("valley 3 2;ground 4 1;air 3 5;maker 0 5 0;maker 5 0 5;");
            due("count(2)", x.count(2), 2);
            Boundary.louds(x, 0, 4, 0, 1, 2, 3, 0, 3, 4);
            Boundary.louds(x, 1, 4, 0, 4, 3, 2, 3, 2, 1);
            due("cry(0, 5)", x.cry(0, 5), 5);
            LentAir y = Boundary.told("valley 6 6;maker 1 35 0;maker 1 6 0;");
            due("heard(0, 1, 0, 35)", y.heard(0, 1, 0, 35), 1);
            due("heard(1, 1, 0, 6)", y.heard(1, 1, 0, 6), 1);
            Boundary.fault("valley 6 6;maker 0 36 0;", 19);
            Boundary.fault("valley 2 1;maker 0 2 0;", 19);
            Boundary.fault("valley 3 2;maker 6 0 0;", 17);
            Boundary.fault("valley 3 2;maker 0 6 0;", 19);
            Boundary.fault("valley 3 2;maker 0 5 6;", 21);
            Boundary.fault("valley 3 2;maker 0 5;", 20);
            Boundary.fault("valley 3 2;maker 0 5 0 0;", 23);
            Boundary.fault("valley 3 2;maker voice 5 0;", 17);
            Boundary.fault("valley 3 2;voice 5 0;", 11);
        });
        Boundary.asks("leave m o a b l.", () -> {
            LentAir x = Boundary.told("valley 1 1;maker 0 0 0;maker 0 0 0;leave 1 5 23 23 20;leave 0 0 0 0 1;leave 0 1 0 23 7;");
            int[][] leaves = {{1, 5, 23, 23, 20}, {0, 0, 0, 0, 1}, {0, 1, 0, 23, 7}};
            for (int i = 0; i < leaves.length; i++) {
                for (int what = 0; what < 5; what++) {
                    due("about(" + i + ", " + what + ")", x.about(i, what), leaves[i][what]);
                }
            }
            String one = "valley 1 1;maker 0 0 0;";
            Boundary.fault(one + "leave 1 0 0 0 1;", 29);
            Boundary.fault(one + "leave 0 6 0 0 1;", 31);
            Boundary.fault(one + "leave 0 0 24 24 1;", 33);
            Boundary.fault(one + "leave 0 0 1 0 1;", 35);
            Boundary.fault(one + "leave 0 0 23 22 1;", 36);
            Boundary.fault(one + "leave 0 0 0 24 1;", 35);
            Boundary.fault(one + "leave 0 0 0 0 0;", 37);
            Boundary.fault(one + "leave 0 0 0 0 21;", 37);
            Boundary.fault(one + "leave 0 0 0 0;", 36);
            Boundary.fault(one + "leave 0 0 0 0 1 1;", 39);
        });
    }

    private static void tokens() {
        Boundary.asks("TOKENS: words of letters a .. z (a KIND is told as its number), figures (1 or 2 are one number), ; ;", () -> {
            // The bytes beside a .. z, 0 .. 9 and ; begin no TOKEN.
            for (char c : new char[] {'`', '{', '/', ':', '<', 'A', 'Z', '@', '[', '-', '+', '.', ',', '_', 0, 127}) {
                Boundary.fault("valley 2 2;" + c, 11);
                Boundary.fault("valley" + c + "2 2;", 6);
                Boundary.fault("valley 2" + c + "2;", 8);
            }
            Boundary.fault("valley 2 2;fee z 0;", 15);
            Boundary.fault("valley 2 2;fee a 0;", 15);
            Boundary.fault("valley 2 2;maker bell 0 0;", 17);
            LentAir x = Boundary.told("valley 02 03;fee 00 00;fee 01 09;fee 2 90;fee 3 9;");
            due("count(0)", x.count(0), 2);
            due("count(1)", x.count(1), 3);
            int[] fees = {0, 9, 90, 9, 1, 1};
            for (int owner = 0; owner < 6; owner++) {
                due("fee(" + owner + ", 1)", x.fee(owner, 1), fees[owner]);
            }
        });
        Boundary.asks("blanks (32), any number, ahead of, between and behind TOKENS (needed only between two words, two numbers).", () -> {
            due("read() with one blank each", read(" valley 1 1 ; fee 0 1 ; "), 2);
            due("read() with many", read("   valley   1    1   ;   fee  0  1  ;    "), 2);
            due("read() with the fewest", read("valley1 1;fee0 1;ground0 2;maker0 0 0;leave0 0 0 0 1;"), 5);
            due("read() without one between two numbers", read("valley11;"), -16);
            due("read() without one between two words", read("valleyfee"), -10);
            due("read() of but one blank", read(" "), -11);
            due("read() of 150 blanks", read(" ".repeat(150)), -160);
            Boundary.fault("valley 1 1 ;feefee 0 0;", 12);
            for (char c : new char[] {9, 10, 13, 31, 33}) {
                Boundary.fault(c + "valley 1 1;", 0);
                Boundary.fault("valley" + c + "1 1;", 6);
                Boundary.fault("valley 1" + c + "1;", 8);
                Boundary.fault("valley 1 1;" + c, 11);
            }
            // Blanks break a word, and a number.
            Boundary.fault("val ley 1 1;", 0);
            Boundary.fault("valley 1 1;fee 1 2 3;", 19);
        });
    }

    private static void faults() {
        Boundary.asks("FAULT: the place of the first byte of the first TOKEN that can not stand there", () -> {
            Boundary.fault("1 valley 1 1;", 0);
            Boundary.fault("   1 valley 1 1;", 3);
            Boundary.fault("valley valley 1 1;", 7);
            Boundary.fault("valley 1   ;", 11);
            Boundary.fault("valley 1 1   fee 0 0;", 13);
            Boundary.fault("valley 1 1;1 1;", 11);
            Boundary.fault("valley 1 1;  1 1;", 13);
            Boundary.fault("valley 1 1;fee;", 14);
            Boundary.fault("valley 1 1;fee fee 0;", 15);
            // Of two the first one: 7 is too large, 77 would be, too.
            Boundary.fault("valley 7 77;tree;", 7);
            // At the first byte, at the last one of the longest TEXT.
            Boundary.fault("a", 0);
            Boundary.fault("valley 1 1;" + " ".repeat(138) + ";", 149);
        });
        Boundary.asks("(a word that is none,", () -> {
            for (String word : new String[] {"valle", "valleys", "valleya", "valleyz", "volley", "alley", "avalley", "zvalley", "v", "z", "vallez",
                "balley", "veil", "valleyvalley"}) {
                Boundary.fault(word + " 1 1;", 0);
            }
            String[] others = {"feea", "feez", "afee", "zfee", "groun", "grounds", "grownd", "ai", "airs", "bir", "fe", "fees", "fie", "make", "makers",
                "laker", "leav", "leaves", "leafe", "tree", "a", "ears", "cry", "let", "voice"};
            for (String word : others) {
                Boundary.fault("valley 1 1;" + word + " 0 0;", 11);
            }
            // It is none, too, if the TEXT ends with what would be one's beginning.
            Boundary.fault("val", 0);
            Boundary.fault("valley 1 1;gr", 11);
        });
        Boundary.asks("valley again,", () -> {
            Boundary.fault("valley 1 1;valley 1 1;", 11);
            Boundary.fault("valley 1 1; fee 0 0; valley 2 2;", 21);
            Boundary.fault("valley 1 1;valley", 11);
        });
        Boundary.asks("anything ahead of it,", () -> {
            for (String ahead : new String[] {"fee 0 0;", "ground 0 0;", "air 0 0;", "maker 0 0 0;", "leave 0 0 0 0 1;", ";", "5"}) {
                Boundary.fault(ahead + "valley 1 1;", 0);
                Boundary.fault("  " + ahead, 2);
            }
        });
        Boundary.asks("a 7th maker,", () -> {
            String six = "valley 1 1;" + "maker 0 0 0;".repeat(6);
            LentAir x = Boundary.told(six);
            due("count(2)", x.count(2), 6);
            Boundary.fault(six + "maker 0 0 0;", 83);
            Boundary.fault(six + "  maker 9 9 9;", 85);
            Boundary.fault(six + "maker", 83);
            // MAKERS that were there ahead of it do not count.
            Boundary.type(x, six);
            due("read() over six MAKERS", x.read(), 7);
        });
        Boundary.asks("a 9th leave at its word,", () -> {
            String eight = "valley1 1;maker0 0 0;" + "leave0 0 0 0 1;".repeat(8);
            LentAir x = Boundary.told(eight);
            due("count(3)", x.count(3), 8);
            Boundary.fault(eight + "leave", 141);
            Boundary.fault(eight + " leave 9", 142);
            Boundary.type(x, eight);
            due("read() over eight LEAVES", x.read(), 10);
        });
        Boundary.asks("a run of three figures or more (at its first one),", () -> {
            Boundary.fault("valley 001 1;", 7);
            Boundary.fault("valley 1 001;", 9);
            Boundary.fault("valley 1 1;fee 0 000;", 17);
            Boundary.fault("valley 1 1;fee 0 0001;", 17);
            Boundary.fault("valley 1 1;fee 0 " + "0".repeat(133), 17);
            Boundary.fault("100valley", 0);
            Boundary.fault("valley 1 1 100;", 11);
            Boundary.fault("valley 1 100", 9);
            due("read() of two figures", read("valley 01 01;"), 1);
        });
        Boundary.asks("a number not as told,", () -> {
            Boundary.fault("valley 1 1;fee 06 1;", 15);
            Boundary.fault("valley 1 1;fee 99 1;", 15);
            Boundary.fault("valley 1 1;ground 1 0;", 18);
            Boundary.fault("valley 1 1;ground 0 03;", 20);
            Boundary.fault("valley 1 1;maker 0 0 0;leave 0 0 5 4 1;", 35);
            Boundary.fault("valley 1 1;maker 0 0 0;leave 0 0 5 5 0;", 37);
            // CELLS are those of the VALLEY that is read, not of the one that is there.
            LentAir x = new LentAir();
            x.valley(1, 1);
            Boundary.type(x, "valley 6 6;air 35 5;");
            due("read() of a CELL that was not there", x.read(), 2);
            Boundary.type(x, "valley 6 5;air 30 5;");
            due("read() of a CELL that was there", x.read(), -25);
        });
        Boundary.asks("also a MAKER that is not there yet,", () -> {
            Boundary.fault("valley 1 1;leave 0 0 0 0 1;maker 0 0 0;", 17);
            Boundary.fault("valley 1 1;maker 0 0 0;leave 1 0 0 0 1;maker 0 0 0;", 29);
            due("read() of one that is", read("valley 1 1;maker 0 0 0;maker 0 0 0;leave 1 0 0 0 1;"), 4);
        });
        Boundary.asks("a byte that begins none, too);", () -> {
            // Behind "fee 0 5" a figure or a blank can stand, ; ends the ITEM, all else is at place 18.
            for (int c = 0; c < 128; c++) {
                int end = c == ' ' || c >= '0' && c <= '9' ? -29 : c == ';' ? 2 : -28;
                due("read() behind which is byte " + c, read("valley 1 1;fee 0 5" + (char) c), end);
                due("read() of byte " + c, read("" + (char) c), c == ' ' ? -11 : -10);
            }
            due("read() with a capital in a word", read("vaLley 1 1;"), -10);
            due("read() with a hyphen", read("valley -1 1;"), -17);
        });
        Boundary.asks("the TEXT's length, if it ends too early (an empty one, too).", () -> {
            Boundary.fault("", 0);
            Boundary.fault("  ", 2);
            Boundary.fault("valley", 6);
            Boundary.fault("valley ", 7);
            Boundary.fault("valley 1", 8);
            Boundary.fault("valley 1 1", 10);
            Boundary.fault("valley 1 1 ", 11);
            Boundary.fault("valley 1 1;fee", 14);
            Boundary.fault("valley 1 1;fee 0", 16);
            Boundary.fault("valley 1 1;fee 0 0", 18);
            Boundary.fault("valley 1 1;maker 0 0 0;leave 0 0 0 0 1", 38);
            Boundary.fault("valley 1 1;" + " ".repeat(134) + "fee 0", 150);
            due("read() of a new object", new LentAir().read(), -10);
        });
    }

    private static void whatIsRead() {
        Boundary.asks("A VALLEY that is read takes the place of all but IMAGES, THE TEXT, STATUS (no EARS, LETS, nothing to undo).", () -> {
            LentAir x = Boundary.full();
            fillMore(x);
            long image = digestOf(x);
            x.image(1);
            // Again and again: what was there ahead of the last but one is gone, too.
            for (int i = 0; i < 3; i++) {
                Boundary.type(x, "valley 6 6;");
                int[] status = {x.status(0), x.status(1), x.status(2)};
                due("read()", x.read(), 1);
                due("count(5): THE TEXT stays", x.count(5), 11);
                for (int reason = 0; reason < 3; reason++) {
                    due("status(" + reason + "): it stays", x.status(reason), status[reason]);
                }
                nothingToldIn(x);
                x.maker(0, 35, 0);
                x.leave(0, 0, 0, 0, 1);
                x.fee(5, 7);
                x.ears(35, 2);
                x.let(5, 0);
                x.put(0, 35, 1);
                x.put(1, 35, 1);
            }
            due("from(1): the IMAGE stays", x.from(1), 1);
            due("digest() of it", digestOf(x), image);
        });
    }

    private static void fillMore(LentAir x) {
        for (int cell = 0; cell < 36; cell++) {
            x.ears(cell, 1 + cell % 2);
        }
        for (int owner = 0; owner < 6; owner++) {
            x.fee(owner, 50 + owner);
            x.let(owner, (owner + 1) % 6);
            x.cry(owner, 9);
        }
    }

    private static void nothingToldIn(LentAir x) {
        due("count(2): no MAKERS", x.count(2), 0);
        due("count(3): no LEAVES", x.count(3), 0);
        due("count(4): nothing to undo", x.count(4), 0);
        due("undo()", x.undo(), -3);
        due("let(5, -1): no LETS", x.let(5, -1), -1);
        due("rings(): no LETS", x.rings(), 0);
        due("ears(35, 0): no EARS", x.ears(35, 0), 0);
        due("ears(0, 0): no EARS", x.ears(0, 0), 0);
        due("fee(5, 1)", x.fee(5, 1), 1);
        due("put(0, 35, 0)", x.put(0, 35, 0), 0);
        due("put(1, 35, 0)", x.put(1, 35, 0), 0);
        x.clear();
        LentAir y = new LentAir();
        y.valley(6, 6);
        due("digest(): all else is as at first", x.digest(), y.digest());
    }

    /** But for THE TEXT, which is emptied. */
    private static long digestOf(LentAir x) {
        x.clear();
        return x.digest();
    }

    private static int read(String text) {
        LentAir x = new LentAir();
        Boundary.type(x, text);
        return x.read();
    }

    private static void due(String call, long got, long want) {
        Boundary.due(call, got, want);
    }
}
