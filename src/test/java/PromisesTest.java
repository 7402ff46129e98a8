/** A test for each promise of the document: ordinary calls, the edges that it names, wrong numbers. */
public final class PromisesTest {
    private static int wrong = 0;
    private static int promise = 0;

    public static void main(String[] args) {
        Watch.start();
        newObject();
        valley();
        put();
        fee();
        maker();
        leave();
        take();
        undo();
        about();
        type();
        clear();
        read();
        readFaults();
        heard();
        kinds();
        leavesOfSounds();
        echoes();
        far();
        cost();
        trespass();
        carried();
        mend();
        ears();
        buy();
        who();
        still();
        cry();
        criers();
        let();
        liable();
        rings();
        first();
        peal();
        thunder();
        image();
        from();
        status();
        count();
        digest();
        constants();
        System.out.println(wrong == 0 ? "all promises hold" : wrong + " answers are not as promised");
        if (wrong != 0) {
            System.exit(1);
        }
    }

    private static void due(String call, long got, long want) {
        if (got != want) {
            wrong++;
            System.out.println("promise " + promise + ": " + call + " answered " + got + ", due is " + want);
        }
    }

    /** A refused call changes nothing but STATUS: the digest stays, the told reason counts one more. */
    private static void refused(LentAir x, int reason, long digest, long statusBefore) {
        due("digest() behind a refused call", x.digest(), digest);
        due("status(" + reason + ") behind a refused call", x.status(reason), statusBefore + 1);
    }

    private static void type(LentAir x, String text) {
        x.clear();
        for (char c : text.toCharArray()) {
            x.type(c);
        }
    }

    private static void tell(LentAir x, String text) {
        type(x, text);
        due("read() of " + text, x.read(), text.chars().filter(c -> c == ';').count());
    }

    private static LentAir told(String text) {
        LentAir x = new LentAir();
        tell(x, text);
        return x;
    }

    private static void fault(String text, int place) {
        LentAir x = new LentAir();
        x.valley(6, 6);
        x.maker(2, 35, 5);
        x.leave(0, 1, 2, 3, 4);
        type(x, text);
        long before = x.digest();
        due("read() of '" + text + "'", x.read(), -10 - place);
        due("digest() behind a fault in '" + text + "'", x.digest(), before);
        for (int reason = 0; reason < 3; reason++) {
            due("status(" + reason + ") behind a fault", x.status(reason), 0);
        }
    }

    private static void row(LentAir x, int maker, int loud, int hour, int... louds) {
        for (int cell = 0; cell < louds.length; cell++) {
            due("heard(" + maker + ", " + loud + ", " + hour + ", " + cell + ")", x.heard(maker, loud, hour, cell), louds[cell]);
        }
    }

    private static void constants() {
        promise = 0;
        due("NONE", LentAir.NONE, -1);
        due("BAD", LentAir.BAD, -2);
        due("NO", LentAir.NO, -3);
        due("FULL", LentAir.FULL, -4);
    }

    private static void newObject() {
        promise = 1;
        LentAir x = new LentAir();
        int[] counts = {5, 5, 0, 0, 0, 0};
        for (int what = 0; what < counts.length; what++) {
            due("count(" + what + ")", x.count(what), counts[what]);
        }
        due("put(0, 24, 0)", x.put(0, 24, 0), 0);
        due("put(1, 24, 0)", x.put(1, 24, 0), 0);
        due("ears(24, 0)", x.ears(24, 0), 0);
        due("fee(5, 1)", x.fee(5, 1), 1);
        due("let(5, -1)", x.let(5, -1), -1);
        due("undo()", x.undo(), -3);
        due("from(0)", x.from(0), -3);
        due("clear()", x.clear(), 0);
        LentAir y = new LentAir();
        due("status(0)", y.status(0), 0);
        due("status(1)", y.status(1), 0);
        due("status(2)", y.status(2), 0);
    }

    private static void valley() {
        promise = 2;
        LentAir x = new LentAir();
        long first = x.digest();
        x.put(0, 3, 2);
        x.put(1, 3, 4);
        x.ears(3, 1);
        x.fee(2, 7);
        x.let(2, 3);
        x.maker(1, 2, 3);
        x.leave(0, 1, 2, 3, 4);
        due("valley(5, 5)", x.valley(5, 5), 1);
        due("digest() of all as at first", x.digest(), first);
        due("undo()", x.undo(), -3);
        due("valley(6, 1)", x.valley(6, 1), 1);
        due("count(0)", x.count(0), 6);
        due("count(1)", x.count(1), 1);
        due("put(0, 6, 0)", x.put(0, 6, 0), -2);
        due("put(0, 5, 0)", x.put(0, 5, 0), 0);
        due("valley(1, 6)", x.valley(1, 6), 1);
        due("count(0)", x.count(0), 1);
        due("count(1)", x.count(1), 6);
        int[][] bad = {{0, 1}, {1, 0}, {7, 1}, {1, 7}, {-1, 3}, {3, Integer.MIN_VALUE}, {Integer.MAX_VALUE, 3}};
        for (int[] b : bad) {
            long before = x.digest();
            long status = x.status(0);
            due("valley(" + b[0] + ", " + b[1] + ")", x.valley(b[0], b[1]), -2);
            refused(x, 0, before, status);
        }
        LentAir y = new LentAir();
        y.fee(0, 9);
        y.image(1);
        type(y, "abc");
        y.take(0);
        y.valley(2, 2);
        due("count(5): THE TEXT stays", y.count(5), 3);
        due("status(0): it stays", y.status(0), 1);
        due("from(1): the IMAGE stays", y.from(1), 1);
        due("fee(0, 0)", y.fee(0, 0), 9);
    }

    private static void put() {
        promise = 3;
        LentAir x = new LentAir();
        due("put(0, 24, 2)", x.put(0, 24, 2), 0);
        due("put(0, 24, 1)", x.put(0, 24, 1), 2);
        due("put(0, 24, 0)", x.put(0, 24, 0), 1);
        due("put(1, 24, 5)", x.put(1, 24, 5), 0);
        due("put(1, 24, 2)", x.put(1, 24, 2), 5);
        due("put(0, 24, 0): the GROUND is another", x.put(0, 24, 0), 0);
        due("put(0, 0, 2)", x.put(0, 0, 2), 0);
        due("put(1, 0, 0)", x.put(1, 0, 0), 0);
        int[][] bad = {{-1, 0, 0}, {2, 0, 0}, {0, -1, 0}, {0, 25, 0}, {0, 0, -1}, {0, 0, 3}, {1, 0, 6}, {1, 0, -1},
            {1, 25, 0}, {1, Integer.MIN_VALUE, 0}, {0, 0, Integer.MAX_VALUE}};
        for (int[] b : bad) {
            long before = x.digest();
            long status = x.status(0);
            due("put(" + b[0] + ", " + b[1] + ", " + b[2] + ")", x.put(b[0], b[1], b[2]), -2);
            refused(x, 0, before, status);
        }
    }

    private static void fee() {
        promise = 4;
        LentAir x = new LentAir();
        due("fee(0, 99)", x.fee(0, 99), 1);
        due("fee(0, 0)", x.fee(0, 0), 99);
        due("fee(0, 5)", x.fee(0, 5), 0);
        due("fee(5, 5)", x.fee(5, 5), 1);
        int[][] bad = {{-1, 0}, {6, 0}, {0, -1}, {0, 100}};
        for (int[] b : bad) {
            long before = x.digest();
            long status = x.status(0);
            due("fee(" + b[0] + ", " + b[1] + ")", x.fee(b[0], b[1]), -2);
            refused(x, 0, before, status);
        }
    }

    private static void maker() {
        promise = 5;
        LentAir x = new LentAir();
        int[][] bad = {{-1, 0, 0}, {6, 0, 0}, {0, -1, 0}, {0, 25, 0}, {0, 0, -1}, {0, 0, 6}};
        for (int[] b : bad) {
            long before = x.digest();
            long status = x.status(0);
            due("maker(" + b[0] + ", " + b[1] + ", " + b[2] + ")", x.maker(b[0], b[1], b[2]), -2);
            refused(x, 0, before, status);
        }
        for (int i = 0; i < 6; i++) {
            due("maker(" + i + ", " + (24 - i) + ", " + i + ")", x.maker(i, 24 - i, i), i);
        }
        due("count(2)", x.count(2), 6);
        long before = x.digest();
        due("maker(0, 0, 0)", x.maker(0, 0, 0), -4);
        refused(x, 2, before, 0);
        due("maker(6, 0, 0): BAD ahead of FULL", x.maker(6, 0, 0), -2);
    }

    private static void leave() {
        promise = 6;
        LentAir x = new LentAir();
        due("leave(0, 0, 0, 0, 1): no MAKER yet", x.leave(0, 0, 0, 0, 1), -2);
        x.maker(0, 0, 0);
        int[][] bad = {{-1, 0, 0, 0, 1}, {1, 0, 0, 0, 1}, {0, -1, 0, 0, 1}, {0, 6, 0, 0, 1}, {0, 0, -1, 0, 1},
            {0, 0, 24, 24, 1}, {0, 0, 5, 4, 1}, {0, 0, 0, 24, 1}, {0, 0, 0, -1, 1}, {0, 0, 0, 0, 0}, {0, 0, 0, 0, 21}};
        for (int[] b : bad) {
            long before = x.digest();
            long status = x.status(0);
            due("leave(" + b[0] + ", " + b[1] + ", " + b[2] + ", " + b[3] + ", " + b[4] + ")",
                x.leave(b[0], b[1], b[2], b[3], b[4]), -2);
            refused(x, 0, before, status);
        }
        due("leave(0, 5, 23, 23, 20)", x.leave(0, 5, 23, 23, 20), 0);
        for (int i = 1; i < 8; i++) {
            due("leave(0, 0, 0, 0, 1)", x.leave(0, 0, 0, 0, 1), i);
        }
        long before = x.digest();
        due("leave(0, 0, 0, 0, 1)", x.leave(0, 0, 0, 0, 1), -4);
        refused(x, 2, before, 0);
        due("leave(1, 0, 0, 0, 1): BAD ahead of FULL", x.leave(1, 0, 0, 0, 1), -2);
    }

    private static void take() {
        promise = 7;
        LentAir x = new LentAir();
        due("take(0)", x.take(0), -2);
        x.maker(0, 0, 0);
        for (int i = 0; i < 4; i++) {
            x.leave(0, i, i, 10 + i, 1 + i);
        }
        due("take(1)", x.take(1), 3);
        int[] owners = {0, 2, 3};
        for (int i = 0; i < 3; i++) {
            due("about(" + i + ", 1): others close up", x.about(i, 1), owners[i]);
            due("about(" + i + ", 3)", x.about(i, 3), 10 + owners[i]);
        }
        due("take(2)", x.take(2), 2);
        due("about(1, 4)", x.about(1, 4), 3);
        due("take(0)", x.take(0), 1);
        due("about(0, 1)", x.about(0, 1), 2);
        for (int i : new int[] {-1, 1, 8, Integer.MAX_VALUE, Integer.MIN_VALUE}) {
            long before = x.digest();
            long status = x.status(0);
            due("take(" + i + ")", x.take(i), -2);
            refused(x, 0, before, status);
        }
        due("take(0)", x.take(0), 0);
        due("take(0)", x.take(0), -2);
    }

    private static void undo() {
        promise = 8;
        LentAir x = new LentAir();
        due("undo()", x.undo(), -3);
        due("status(1)", x.status(1), 1);
        x.maker(0, 0, 0);
        x.leave(0, 1, 2, 3, 4);
        x.leave(0, 2, 3, 4, 5);
        long two = x.digest();
        x.take(0);
        due("undo() of a take", x.undo(), 2);
        due("digest() as ahead of it", x.digest(), two);
        due("undo() of a leave", x.undo(), 1);
        due("about(0, 1)", x.about(0, 1), 1);
        due("undo()", x.undo(), 0);
        due("undo()", x.undo(), -3);
        for (int i = 0; i < 5; i++) {
            x.leave(0, i, 0, 23, 1 + i);
        }
        for (int i = 0; i < 5; i++) {
            x.take(0);
        }
        due("count(4): 8 at most", x.count(4), 8);
        x.leave(9, 0, 0, 0, 1);
        x.take(9);
        due("count(4): a refused call is none", x.count(4), 8);
        int[] left = {1, 2, 3, 4, 5, 4, 3, 2};
        for (int i = 0; i < 8; i++) {
            due("undo()", x.undo(), left[i]);
        }
        due("about(1, 4)", x.about(1, 4), 2);
        due("undo(): the oldest are forgotten", x.undo(), -3);
        x.maker(1, 1, 1);
        x.leave(1, 0, 0, 0, 9);
        x.fee(0, 50);
        due("undo()", x.undo(), 2);
        due("count(2): only LEAVES go back", x.count(2), 2);
        due("fee(0, 50)", x.fee(0, 50), 50);
    }

    private static void about() {
        promise = 9;
        LentAir x = new LentAir();
        x.maker(0, 0, 0);
        x.maker(0, 0, 0);
        x.leave(0, 5, 23, 23, 20);
        x.leave(1, 2, 3, 4, 5);
        int[][] want = {{0, 5, 23, 23, 20}, {1, 2, 3, 4, 5}};
        for (int i = 0; i < 2; i++) {
            for (int what = 0; what < 5; what++) {
                due("about(" + i + ", " + what + ")", x.about(i, what), want[i][what]);
            }
        }
        int[][] bad = {{-1, 0}, {2, 0}, {0, -1}, {0, 5}, {7, 4}, {Integer.MAX_VALUE, 0}};
        for (int[] b : bad) {
            long before = x.digest();
            long status = x.status(0);
            due("about(" + b[0] + ", " + b[1] + ")", x.about(b[0], b[1]), -2);
            refused(x, 0, before, status);
        }
    }

    private static void type() {
        promise = 10;
        LentAir x = new LentAir();
        due("type(-1)", x.type(-1), -2);
        due("type(128)", x.type(128), -2);
        due("status(0)", x.status(0), 2);
        due("type(0)", x.type(0), 1);
        due("type(127)", x.type(127), 2);
        for (int i = 3; i <= 150; i++) {
            due("type(32)", x.type(32), i);
        }
        due("type(32)", x.type(32), -4);
        due("type(128): BAD ahead of FULL", x.type(128), -2);
        due("status(2)", x.status(2), 1);
        due("count(5)", x.count(5), 150);
    }

    private static void clear() {
        promise = 11;
        LentAir x = new LentAir();
        due("clear()", x.clear(), 0);
        x.type(118);
        x.type(97);
        due("clear()", x.clear(), 2);
        due("count(5)", x.count(5), 0);
        due("clear()", x.clear(), 0);
        due("read() of none", x.read(), -10);
    }

    private static void read() {
        promise = 12;
        LentAir x = new LentAir();
        x.fee(3, 9);
        x.let(3, 4);
        x.ears(3, 2);
        x.maker(2, 2, 2);
        x.leave(0, 0, 0, 0, 1);
        x.image(0);
        x.take(5);
        tell(x, " valley  3 02;ground 5 2;air 5 4;fee 4 77;maker 5 5 1;leave 0 4 7 23 20;");
        int[] counts = {3, 2, 1, 1, 0};
        for (int what = 0; what < 5; what++) {
            due("count(" + what + ")", x.count(what), counts[what]);
        }
        due("status(0): it stays", x.status(0), 1);
        due("count(5): THE TEXT stays", x.count(5), 72);
        due("read() again", x.read(), 6);
        due("undo(): nothing to undo", x.undo(), -3);
        due("put(0, 5, 0)", x.put(0, 5, 0), 2);
        due("put(1, 5, 0)", x.put(1, 5, 0), 4);
        due("fee(4, 1)", x.fee(4, 1), 77);
        due("fee(3, 1): as at first", x.fee(3, 1), 1);
        due("let(3, -1): no LETS", x.let(3, -1), -1);
        due("ears(3, 0): no EARS", x.ears(3, 0), 0);
        due("cry(0, 5)", x.cry(0, 5), 5);
        int[] leave = {0, 4, 7, 23, 20};
        for (int what = 0; what < 5; what++) {
            due("about(0, " + what + ")", x.about(0, what), leave[what]);
        }
        due("from(0): the IMAGE stays", x.from(0), 1);
        due("let(3, -1)", x.let(3, -1), 4);
        tell(x, "valley 1 1;");
        due("count(0)", x.count(0), 1);
        tell(x, "valley1 6;fee5 99;fee 5 0;  ");
        due("fee(5, 1): the last one", x.fee(5, 1), 0);
        tell(x, "valley 6 6;maker 0 35 5;maker 0 0 0;maker 0 0 0;maker 0 0 0;maker 0 0 0;maker 0 0 0;");
        tell(x, "valley 6 6 ; maker 0 0 0 ;leave 0 0 0 0 1;leave 0 0 9 9 1;leave 0 0 0 0 1;leave 0 0 0 0 1;"
            + "leave 0 0 0 0 1;leave 0 0 0 0 1;leave 0 0 0 0 1;");
        due("count(3)", x.count(3), 7);
        LentAir y = new LentAir();
        tell(y, "valley 3 1;fee 0 2;");
        LentAir z = new LentAir();
        z.valley(3, 1);
        z.fee(0, 2);
        type(z, "valley 3 1;fee 0 2;");
        due("digest() as of the same calls", y.digest(), z.digest());
    }

    private static void readFaults() {
        promise = 12;
        fault("", 0);
        fault("   ", 3);
        fault(";", 0);
        fault("valley", 6);
        fault("valley 2", 8);
        fault("valley 2 2", 10);
        fault("valley 2 2  ", 12);
        fault("  val 2 2;", 2);
        fault("valleys 2 2;", 0);
        fault("Valley 2 2;", 0);
        fault("vaLley 2 2;", 0);
        fault("galley 2 2;", 0);
        fault("vally 2 2;", 0);
        fault("valleyz 2 2;", 0);
        fault("avalley 2 2;", 0);
        fault("valley 2 2;bir 0 0;", 11);
        fault("valley 2 2;ground 0 0;zee 0 0;", 22);
        fault("3 valley 2 2;", 0);
        fault("valley 0 2;", 7);
        fault("valley 7 2;", 7);
        fault("valley 2 7;", 9);
        fault("valley 2 00;", 9);
        fault("valley 2 002;", 9);
        fault("valley 123 2;", 7);
        fault("valley ; 2;", 7);
        fault("valley 2 ;", 9);
        fault("valley 2 fee;", 9);
        fault("valley 2 2 2;", 11);
        fault("valley 2 2 fee 1 1;", 11);
        fault("valley 2 2;;", 11);
        fault("valley 2 2; valley 2 2;", 12);
        fault("fee 1 1;valley 2 2;", 0);
        fault("valley 2 2;tree 1 1;", 11);
        fault("valley 2 2;ground 4 0;", 18);
        fault("valley 2 2;ground 3 3;", 20);
        fault("valley 2 2;air 4 0;", 15);
        fault("valley 2 2;air 0 6;", 17);
        fault("valley 2 2;fee 6 0;", 15);
        fault("valley 2 2;fee 0 100;", 17);
        fault("valley 2 2;fee 0 a;", 17);
        fault("valley 2 2;fee 0 1a;", 18);
        fault("valley 2 2;7 fee 0 1;", 11);
        fault("valley 2 2;maker 6 0 0;", 17);
        fault("valley 2 2;maker 0 4 0;", 19);
        fault("valley 2 2;maker 0 0 6;", 21);
        fault("valley 2 2;maker 0 0;", 20);
        fault("valley 2 2;maker 0 0 0 0;", 23);
        fault("valley 2 2;maker voice 0 0;", 17);
        fault("valley 2 2;leave 0 0 0 0 1;", 17);
        String one = "valley 2 2;maker 0 0 0;";
        fault(one + "leave 1 0 0 0 1;", 29);
        fault(one + "leave 0 6 0 0 1;", 31);
        fault(one + "leave 0 0 24 0 1;", 33);
        fault(one + "leave 0 0 5 4 1;", 35);
        fault(one + "leave 0 0 5 24 1;", 35);
        fault(one + "leave 0 0 5 5 0;", 37);
        fault(one + "leave 0 0 5 5 21;", 37);
        fault(one + "leave 0 0 5 5 1", 38);
        fault(one + "-", 23);
        fault(one + (char) 0, 23);
        fault(one + (char) 9, 23);
        fault("valley 2,2;", 8);
        StringBuilder makers = new StringBuilder("valley 6 6;");
        for (int i = 0; i < 7; i++) {
            makers.append("maker 0 0 0;");
        }
        fault(makers.toString(), 83);
        StringBuilder leaves = new StringBuilder("valley1 1;maker0 0 0;");
        for (int i = 0; i < 8; i++) {
            leaves.append("leave0 0 0 0 1;");
        }
        LentAir x = told(leaves.toString());
        due("count(3)", x.count(3), 8);
        fault(leaves + "leave", 141);
    }

    private static void heard() {
        promise = 13;
        LentAir x = new LentAir();
        x.valley(3, 3);
        x.maker(0, 0, 0);
        row(x, 0, 5, 0, 5, 4, 3, 4, 3, 2, 3, 2, 1);
        row(x, 0, 2, 23, 2, 1, 0, 1, 0, 0, 0, 0, 0);
        row(x, 0, 1, 0, 1, 0, 0, 0, 0, 0, 0, 0, 0);
        due("heard(0, 20, 0, 8)", x.heard(0, 20, 0, 8), 16);
        x.valley(1, 4);
        x.maker(0, 1, 0);
        row(x, 0, 3, 0, 2, 3, 2, 1);
        // Rows do not run over into one another.
        x.valley(3, 2);
        x.maker(0, 2, 0);
        row(x, 0, 3, 0, 1, 2, 3, 0, 1, 2);
        int[][] bad = {{-1, 1, 0, 0}, {1, 1, 0, 0}, {0, 0, 0, 0}, {0, 21, 0, 0}, {0, 1, -1, 0}, {0, 1, 24, 0},
            {0, 1, 0, -1}, {0, 1, 0, 6}};
        for (int[] b : bad) {
            long before = x.digest();
            long status = x.status(0);
            due("heard(" + b[0] + ", " + b[1] + ", " + b[2] + ", " + b[3] + ")", x.heard(b[0], b[1], b[2], b[3]), -2);
            refused(x, 0, before, status);
        }
    }

    private static void kinds() {
        promise = 13;
        // Another one's AIR from CELL 4 on, a HEDGE in CELL 2; of each KIND one, all in CELL 0.
        LentAir x = told("valley 6 1;ground 2 1;air 4 1;air 5 1;maker 0 0 0;maker 1 0 0;maker 2 0 0;"
            + "maker 3 0 0;maker 4 0 0;maker 5 0 0;");
        row(x, 0, 9, 0, 9, 8, 7, 0, 0, 0);
        row(x, 1, 9, 0, 9, 8, 7, 5, 0, 0);
        row(x, 2, 9, 0, 9, 7, 5, 0, 0, 0);
        row(x, 3, 9, 0, 9, 7, 0, 0, 0, 0);
        // The HORN's way to and fro comes to CELL 4 with 2, needs no LEAVE so.
        row(x, 4, 9, 0, 9, 8, 7, 5, 2, 1);
        row(x, 4, 8, 0, 8, 7, 6, 4, 3, 2);
        row(x, 4, 7, 0, 7, 6, 5, 3, 2, 1);
        row(x, 5, 9, 0, 9, 8, 7, 6, 5, 4);
        // From a HEDGE of their own.
        x.put(0, 0, 1);
        x.put(0, 2, 0);
        row(x, 0, 5, 0, 5, 0, 0);
        row(x, 1, 5, 0, 5, 3, 2);
        row(x, 1, 2, 0, 2, 0);
        row(x, 2, 5, 0, 5, 0, 0);
        row(x, 3, 5, 0, 5, 0, 0);
        row(x, 4, 5, 0, 5, 3, 2);
        row(x, 5, 5, 0, 5, 4, 3);
    }

    private static void leavesOfSounds() {
        promise = 13;
        LentAir x = told("valley 6 1;air 0 1;air 1 1;air 2 2;air 3 0;air 4 0;air 5 1;maker 0 0 0;maker 0 0 0;");
        row(x, 0, 9, 5, 9, 0, 0, 0, 0, 0);
        x.leave(0, 1, 3, 5, 8);
        row(x, 0, 9, 5, 9, 8, 0, 0, 0, 0);
        row(x, 0, 10, 5, 10, 0, 0, 0, 0, 0);
        row(x, 0, 9, 2, 9, 0, 0, 0, 0, 0);
        row(x, 0, 9, 3, 9, 8, 0, 0, 0, 0);
        row(x, 0, 9, 6, 9, 0, 0, 0, 0, 0);
        row(x, 1, 9, 5, 9, 0, 0, 0, 0, 0);
        x.leave(0, 2, 5, 5, 7);
        row(x, 0, 9, 5, 9, 8, 7, 6, 5, 4);
        row(x, 0, 9, 4, 9, 8, 0, 0, 0, 0);
        // A way that is less LOUD goes where a louder one may not: two steps more.
        LentAir y = told("valley 3 2;air 1 1;air 2 2;maker 0 0 0;leave 0 1 0 23 20;leave 0 2 0 23 5;");
        row(y, 0, 7, 0, 7, 6, 5, 6, 5, 4);
        row(y, 0, 8, 0, 8, 7, 4, 7, 6, 5);
        row(y, 0, 9, 0, 9, 8, 5, 8, 7, 6);
        y.put(1, 5, 1);
        row(y, 0, 8, 0, 8, 7, 4, 7, 6, 5);
    }

    private static void echoes() {
        promise = 13;
        // The CLIFF in CELL 2 hears the VOICE 8 so LOUD by a LEAVE; its OWNER 1 has the AIR of CELL 4, but not of 3.
        LentAir x = told("valley 6 1;ground 2 2;air 2 1;air 3 2;air 4 1;air 5 2;maker 0 0 0;maker 0 5 1;"
            + "leave 0 1 0 9 8;");
        row(x, 0, 10, 0, 10, 9, 8, 0, 0, 0);
        x.leave(1, 2, 5, 9, 3);
        row(x, 0, 10, 4, 10, 9, 8, 0, 0, 0);
        row(x, 0, 10, 5, 10, 9, 8, 3, 2, 1);
        x.take(0);
        row(x, 0, 10, 5, 10, 9, 0, 0, 0, 0);
        x.undo();
        row(x, 0, 8, 5, 8, 7, 6, 2, 1, 0);
        row(x, 0, 7, 5, 7, 6, 5, 1, 0, 0);
        // A DOG comes to the CLIFF 6 so LOUD, has no leave beyond it; the ECHO goes on 3 so LOUD.
        LentAir y = told("valley 6 1;ground 2 2;air 2 1;air 3 2;air 4 2;air 5 3;maker 2 0 0;maker 0 5 1;maker 0 5 1;"
            + "leave 0 1 0 23 20;");
        row(y, 0, 10, 0, 10, 8, 6, 0, 0, 0);
        y.leave(1, 2, 0, 23, 2);
        row(y, 0, 10, 0, 10, 8, 6, 2, 1, 0);
        row(y, 0, 11, 0, 11, 9, 7, 2, 1, 0);
        row(y, 0, 12, 0, 12, 10, 8, 0, 0, 0);
        y.leave(2, 2, 4, 4, 3);
        row(y, 0, 12, 4, 12, 10, 8, 3, 2, 0);
        row(y, 0, 12, 3, 12, 10, 8, 0, 0, 0);
        // The ECHO comes back where it may, too, but is not the loudest there.
        y.put(1, 1, 1);
        row(y, 0, 12, 4, 12, 10, 8, 3, 2, 0);
        // Heard 1 so LOUD: half is none.
        row(y, 0, 5, 4, 5, 3, 1, 0, 0, 0);
        // Its own CELL gives nothing back; a HEDGE ends a VOICE, and so an ECHO.
        LentAir z = told("valley 3 1;ground 0 2;air 0 1;air 1 1;maker 0 0 0;");
        row(z, 0, 9, 0, 9, 0, 0);
        LentAir h = told("valley 5 1;ground 1 2;ground 3 1;air 1 1;air 2 1;air 3 1;air 4 1;maker 0 0 0;leave 0 1 0 23 9;");
        row(h, 0, 11, 0, 11, 0, 0, 0, 0);
        row(h, 0, 10, 0, 10, 9, 8, 7, 0);
        // ECHOES of CLIFFS of three OWNERS, each into a HEDGE of his own AIR below it, where no WHISPER comes.
        LentAir o = new LentAir();
        o.valley(5, 2);
        int[] owners = {4, 1, 4, 2, 0, 5, 1, 5, 2, 0};
        for (int cell = 0; cell < 10; cell++) {
            o.put(1, cell, owners[cell]);
            o.put(0, cell, cell == 1 || cell == 3 || cell == 4 ? 2 : cell > 4 ? 1 : 0);
        }
        o.maker(3, 0, 4);
        o.leave(0, 1, 0, 0, 18);
        o.leave(0, 2, 0, 0, 14);
        o.leave(0, 0, 0, 0, 20);
        row(o, 0, 20, 0, 20, 18, 16, 14, 12, 0, 8, 0, 6, 5);
        o.take(1);
        row(o, 0, 20, 0, 20, 18, 16, 0, 0, 0, 8, 0, 0, 0);
        // ECHOES give none: the CLIFF in CELL 3 is heard by the ECHO alone.
        LentAir e = told("valley 6 1;ground 1 2;ground 3 2;air 1 1;air 2 1;air 3 1;air 4 3;maker 2 0 0;maker 0 0 1;"
            + "leave 0 1 0 0 18;leave 1 3 0 0 20;");
        row(e, 0, 20, 0, 20, 18, 16, 14, 6, 0);
        e.put(1, 2, 3);
        row(e, 0, 20, 0, 20, 18, 8, 7, 6, 0);
    }

    private static void far() {
        promise = 14;
        LentAir x = new LentAir();
        x.maker(0, 12, 0);
        due("far(0, 1, 0)", x.far(0, 1, 0), 1);
        due("far(0, 2, 0)", x.far(0, 2, 0), 5);
        due("far(0, 3, 0)", x.far(0, 3, 0), 13);
        due("far(0, 20, 23)", x.far(0, 20, 23), 25);
        // ECHOES count: the DOG's ECHO comes to two CELLS more.
        LentAir y = told("valley 6 1;ground 2 2;air 2 1;air 3 2;air 4 2;air 5 3;maker 2 0 0;maker 0 5 1;"
            + "leave 0 1 0 23 20;leave 1 2 0 23 2;");
        due("far(0, 10, 0)", y.far(0, 10, 0), 5);
        int[][] bad = {{-1, 1, 0}, {2, 1, 0}, {0, 0, 0}, {0, 21, 0}, {0, 1, -1}, {0, 1, 24}};
        for (int[] b : bad) {
            long status = y.status(0);
            due("far(" + b[0] + ", " + b[1] + ", " + b[2] + ")", y.far(b[0], b[1], b[2]), -2);
            due("status(0)", y.status(0), status + 1);
        }
    }

    private static void cost() {
        promise = 15;
        // But for ECHOES: CELLS 0 (his own AIR: free), 1 and 2 cost, 3 and 4 are but CARRIED.
        LentAir y = told("valley 6 1;ground 2 2;air 1 1;air 2 1;air 3 2;air 4 2;fee 0 50;fee 1 7;fee 2 30;maker 2 0 0;"
            + "maker 0 5 1;leave 0 1 0 23 20;leave 1 2 0 23 2;");
        due("far(0, 10, 0)", y.far(0, 10, 0), 5);
        due("cost(0, 10, 0)", y.cost(0, 10, 0), 14);
        due("cost(0, 3, 0)", y.cost(0, 3, 0), 7);
        due("cost(1, 1, 0): his own CELL in another's AIR", y.cost(1, 1, 0), 50);
        LentAir t = told("valley 2 2;air 3 5;fee 0 99;fee 5 0;maker 5 0 1;");
        due("cost(0, 2, 0)", t.cost(0, 2, 0), 297);
        due("cost(0, 3, 0)", t.cost(0, 3, 0), 297);
        int[][] bad = {{-1, 1, 0}, {1, 1, 0}, {0, 0, 0}, {0, 21, 0}, {0, 1, -1}, {0, 1, 24}};
        for (int[] b : bad) {
            long status = t.status(0);
            due("cost(" + b[0] + ", " + b[1] + ", " + b[2] + ")", t.cost(b[0], b[1], b[2]), -2);
            due("status(0)", t.status(0), status + 1);
        }
    }

    private static void trespass() {
        promise = 16;
        LentAir x = told("valley 6 1;air 2 1;air 3 0;air 4 1;air 5 2;ground 4 1;maker 3 0 0;maker 1 0 0;maker 5 0 0;");
        // The WHISPER would come into 2 and 3, but not into the HEDGE in 4.
        due("trespass(0, 20, 0, -1)", x.trespass(0, 20, 0, -1), 2);
        due("trespass(0, 20, 0, 0)", x.trespass(0, 20, 0, 0), 2);
        due("trespass(0, 20, 0, 1)", x.trespass(0, 20, 0, 1), 3);
        due("trespass(0, 20, 0, 2)", x.trespass(0, 20, 0, 2), -5);
        due("trespass(0, 5, 0, -1)", x.trespass(0, 5, 0, -1), 1);
        due("trespass(1, 7, 0, -1)", x.trespass(1, 7, 0, -1), 4);
        due("trespass(1, 7, 0, 3)", x.trespass(1, 7, 0, 3), 5);
        due("trespass(1, 6, 0, -1)", x.trespass(1, 6, 0, -1), 3);
        due("trespass(2, 9, 0, -1)", x.trespass(2, 9, 0, -1), 0);
        due("trespass(2, 9, 0, 0)", x.trespass(2, 9, 0, 0), -5);
        due("status(0): not so many is no refusal", x.status(0), 0);
        LentAir zero = told("valley 2 1;air 0 1;maker 0 1 0;");
        due("trespass(0, 2, 0, 0)", zero.trespass(0, 2, 0, 0), 0);
        due("trespass(0, 2, 0, 1)", zero.trespass(0, 2, 0, 1), -5);
        // What comes there by an ECHO alone is trespassed all the same.
        LentAir y = told("valley 4 1;ground 1 2;air 1 1;air 2 2;air 3 2;maker 2 0 0;maker 0 0 1;leave 0 1 0 23 20;"
            + "leave 1 2 0 23 20;");
        due("heard(0, 9, 0, 2)", y.heard(0, 9, 0, 2), 2);
        due("trespass(0, 9, 0, 0)", y.trespass(0, 9, 0, 0), 2);
        due("trespass(0, 9, 0, -1)", y.trespass(0, 9, 0, -1), 2);
        int[][] bad = {{-1, 1, 0, 0}, {2, 1, 0, 0}, {0, 0, 0, 0}, {0, 21, 0, 0}, {0, 1, -1, 0}, {0, 1, 24, 0},
            {0, 1, 0, -2}, {0, 1, 0, Integer.MIN_VALUE}};
        for (int[] b : bad) {
            long status = y.status(0);
            due("trespass(" + b[0] + ", " + b[1] + ", " + b[2] + ", " + b[3] + ")", y.trespass(b[0], b[1], b[2], b[3]), -10);
            due("status(0)", y.status(0), status + 1);
        }
        due("trespass(0, 9, 0, big)", y.trespass(0, 9, 0, Integer.MAX_VALUE), -5);
    }

    private static LentAir withCarried() {
        return told("valley 6 1;ground 2 2;air 2 1;air 3 2;air 4 2;air 5 3;maker 2 0 0;maker 0 5 1;"
            + "leave 0 1 0 23 20;leave 1 2 0 5 2;");
    }

    private static void carried() {
        promise = 17;
        LentAir y = withCarried();
        due("carried(0, 10, 0, -1)", y.carried(0, 10, 0, -1), 2);
        due("carried(0, 10, 0, 0)", y.carried(0, 10, 0, 0), 3);
        due("carried(0, 10, 0, 1)", y.carried(0, 10, 0, 1), 4);
        due("carried(0, 10, 0, 2)", y.carried(0, 10, 0, 2), -5);
        due("carried(0, 10, 6, -1)", y.carried(0, 10, 6, -1), 0);
        due("carried(0, 10, 6, 0)", y.carried(0, 10, 6, 0), -5);
        due("status(0)", y.status(0), 0);
        int[][] bad = {{-1, 1, 0, 0}, {2, 1, 0, 0}, {0, 0, 0, 0}, {0, 21, 0, 0}, {0, 1, -1, 0}, {0, 1, 24, 0},
            {0, 1, 0, -2}};
        for (int[] b : bad) {
            long status = y.status(0);
            due("carried(" + b[0] + ", " + b[1] + ", " + b[2] + ", " + b[3] + ")", y.carried(b[0], b[1], b[2], b[3]), -10);
            due("status(0)", y.status(0), status + 1);
        }
    }

    private static void mend() {
        promise = 18;
        LentAir y = withCarried();
        due("mend(0, 10, 0)", y.mend(0, 10, 0), 4);
        due("mend(0, 10, 6)", y.mend(0, 10, 6), 0);
        due("count: all stays", y.put(0, 2, 2), 2);
        // Two CLIFFS that each carry, one that does not; the highest CELL is bit 35.
        LentAir z = told("valley 6 6;ground 35 2;ground 33 2;ground 0 2;air 34 1;air 35 2;air 33 1;maker 1 29 0;"
            + "maker 0 0 1;maker 0 0 2;");
        z.leave(0, 2, 0, 0, 20);
        z.leave(0, 1, 0, 0, 4);
        z.leave(2, 1, 0, 0, 9);
        due("heard(0, 8, 0, 35)", z.heard(0, 8, 0, 35), 7);
        due("heard(0, 8, 0, 34)", z.heard(0, 8, 0, 34), 4);
        due("mend(0, 8, 0): 34 is heard but for ECHOES too", z.mend(0, 8, 0), 0);
        z.take(1);
        due("heard(0, 9, 0, 34)", z.heard(0, 9, 0, 34), 3);
        due("mend(0, 9, 0)", z.mend(0, 9, 0), 1L << 35);
        // The CLIFF of CELL 0 is bit 0; two carry one CELL each, a third the CELL of both.
        LentAir c = told("valley 6 1;ground 0 2;ground 3 2;air 0 1;air 1 2;air 3 1;air 4 2;maker 5 2 0;maker 0 0 1;");
        due("mend(0, 9, 0): THUNDER is heard everywhere", c.mend(0, 9, 0), 0);
        LentAir d = told("valley 6 1;ground 0 2;ground 2 2;ground 5 1;air 3 3;air 2 1;maker 2 1 0;maker 0 0 1;maker 0 0 0;"
            + "leave 0 1 0 0 20;leave 1 3 0 0 9;");
        due("carried(0, 13, 0, -1)", d.carried(0, 13, 0, -1), 1);
        due("mend(0, 13, 0)", d.mend(0, 13, 0), 4);
        d.leave(2, 1, 0, 0, 9);
        d.leave(2, 3, 0, 0, 9);
        due("mend(0, 13, 0): the ECHO of CELL 0 comes to 3, too", d.mend(0, 13, 0), 5);
        d.put(0, 5, 2);
        due("mend(0, 13, 0): the CLIFF in CELL 5 is not heard", d.mend(0, 13, 0), 5);
        due("carried(0, 13, 0, 0)", d.carried(0, 13, 0, 0), 3);
        // 8 CLIFFS may be, 9 not, wherever they are.
        LentAir n = new LentAir();
        n.maker(0, 12, 0);
        for (int i = 0; i < 8; i++) {
            n.put(0, i, 2);
        }
        due("mend(0, 2, 0) with 8", n.mend(0, 2, 0), 0);
        n.put(0, 24, 2);
        long before = n.digest();
        due("mend(0, 2, 0) with 9", n.mend(0, 2, 0), -20);
        refused(n, 1, before, 0);
        int[][] bad = {{-1, 1, 0}, {1, 1, 0}, {0, 0, 0}, {0, 21, 0}, {0, 1, -1}, {0, 1, 24}};
        for (int[] b : bad) {
            long status = n.status(0);
            due("mend(" + b[0] + ", " + b[1] + ", " + b[2] + "): BAD ahead of NO", n.mend(b[0], b[1], b[2]), -10);
            due("status(0)", n.status(0), status + 1);
        }
    }

    private static void ears() {
        promise = 19;
        LentAir x = new LentAir();
        due("ears(24, 1)", x.ears(24, 1), 0);
        due("ears(24, 2)", x.ears(24, 2), 1);
        due("ears(24, 0)", x.ears(24, 0), 2);
        due("ears(24, 0)", x.ears(24, 0), 0);
        due("ears(0, 1)", x.ears(0, 1), 0);
        int[][] bad = {{-1, 0}, {25, 0}, {0, -1}, {0, 3}};
        for (int[] b : bad) {
            long before = x.digest();
            long status = x.status(0);
            due("ears(" + b[0] + ", " + b[1] + ")", x.ears(b[0], b[1]), -2);
            refused(x, 0, before, status);
        }
    }

    private static void bought(LentAir x, int maker, int loud, int hour, int cost, int owners) {
        String sound = "buy(" + maker + ", " + loud + ", " + hour + ", ";
        due(sound + "0)", x.buy(maker, loud, hour, 0), cost);
        due(sound + "1)", x.buy(maker, loud, hour, 1), owners);
    }

    private static void buy() {
        promise = 20;
        // To CELL 8 from CELL 0: by OWNER 1's AIR above or by 2's and 3's below.
        LentAir x = told("valley 3 3;air 1 1;air 2 1;air 5 1;air 3 2;air 6 2;air 7 3;air 4 5;fee 1 10;fee 2 2;fee 3 3;"
            + "maker 0 0 0;");
        bought(x, 0, 9, 4, 0, 0);
        x.ears(8, 1);
        bought(x, 0, 9, 4, 7, 12);
        x.fee(3, 30);
        bought(x, 0, 9, 4, 30, 2);
        bought(x, 0, 4, 4, -1, -1);
        x.fee(3, 26);
        bought(x, 0, 9, 4, 30, 2);
        x.fee(3, 25);
        bought(x, 0, 9, 4, 29, 12);
        x.ears(7, 2);
        bought(x, 0, 9, 4, 30, 2);
        x.ears(5, 2);
        bought(x, 0, 9, 4, -1, -1);
        x.ears(5, 0);
        x.ears(7, 0);
        // LEAVES that he has stay: what is heard by them costs, too, and needs not be bought.
        x.leave(0, 1, 4, 4, 20);
        bought(x, 0, 9, 4, 30, 0);
        bought(x, 0, 9, 5, 29, 12);
        x.ears(0, 2);
        bought(x, 0, 9, 5, -1, -1);
        // Of like ones the least bits, also when nothing is asked.
        LentAir y = told("valley 3 1;air 1 4;air 2 2;fee 4 0;fee 2 0;maker 0 0 0;");
        y.ears(1, 1);
        bought(y, 0, 9, 0, 0, 16);
        // THUNDER needs none, its COST counts all the same.
        LentAir e = told("valley 4 1;air 3 1;air 1 2;fee 1 7;fee 2 8;maker 5 0 0;");
        bought(e, 0, 5, 0, 15, 0);
        bought(e, 0, 2, 0, 8, 0);
        LentAir f = told("valley 4 1;ground 1 2;air 2 1;air 3 2;fee 1 5;fee 2 9;maker 2 0 0;leave 0 1 0 0 1;");
        f.ears(3, 1);
        due("heard(0, 8, 0, 2)", f.heard(0, 8, 0, 2), 0);
        bought(f, 0, 8, 0, 14, 6);
        bought(f, 0, 6, 0, -1, -1);
        LentAir g = told("valley 6 1;ground 2 1;ground 1 2;air 3 1;air 2 1;maker 2 0 0;");
        g.ears(2, 1);
        bought(g, 0, 5, 0, 1, 2);
        int[][] bad = {{-1, 1, 0, 0}, {1, 1, 0, 0}, {0, 0, 0, 0}, {0, 21, 0, 0}, {0, 1, -1, 0}, {0, 1, 24, 0},
            {0, 1, 0, -1}, {0, 1, 0, 2}};
        for (int[] b : bad) {
            long status = g.status(0);
            due("buy(" + b[0] + ", " + b[1] + ", " + b[2] + ", " + b[3] + ")", g.buy(b[0], b[1], b[2], b[3]), -10);
            due("status(0)", g.status(0), status + 1);
        }
        buyForEchoes();
    }

    private static void buyForEchoes() {
        // A DOG of 6 has 4 in the CLIFF, 2 behind it, by a LEAVE that is bought; what it has paid is no ECHO's.
        LentAir x = told("valley 4 1;ground 1 2;air 2 1;air 3 1;fee 1 3;maker 2 0 0;");
        x.ears(2, 1);
        bought(x, 0, 6, 0, 3, 2);
        due("heard(0, 6, 0, 2)", x.heard(0, 6, 0, 2), 0);
        // The WHISPER comes into no HEDGE: only the ECHO does, by the LEAVE that was bought.
        LentAir y = told("valley 3 1;ground 1 2;ground 2 1;air 2 1;fee 1 3;maker 3 0 0;");
        y.ears(2, 1);
        bought(y, 0, 6, 0, 0, 2);
        // The ECHO of another one's CLIFF is not his.
        y.put(1, 1, 2);
        bought(y, 0, 6, 0, -1, -1);
        // An ECHO may be what DEAF ones hear.
        LentAir z = told("valley 3 1;ground 1 2;ground 2 1;maker 3 0 0;");
        bought(z, 0, 6, 0, 0, 0);
        z.ears(2, 2);
        bought(z, 0, 6, 0, -1, -1);
    }

    private static void who() {
        promise = 21;
        LentAir x = new LentAir();
        due("who(0, -1)", x.who(0, -1), 0);
        due("who(0, 0)", x.who(0, 0), -5);
        tell(x, "valley 6 1;air 3 1;maker 0 0 0;maker 2 1 0;leave 0 1 9 9 20;");
        due("who(0, -1)", x.who(0, -1), 40);
        due("who(0, 39)", x.who(0, 39), 120);
        due("who(0, 40)", x.who(0, 40), -5);
        x.ears(2, 1);
        x.ears(5, 2);
        due("who(9, -1)", x.who(9, -1), 21);
        due("who(9, 0)", x.who(9, 0), 3);
        due("who(9, 2)", x.who(9, 2), 5);
        due("who(9, 3)", x.who(9, 3), 103);
        due("who(9, 20)", x.who(9, 20), 120);
        due("who(9, 21)", x.who(9, 21), -5);
        due("who(8, -1)", x.who(8, -1), 36);
        // ECHOES count: into the HEDGE comes but the WHISPER's ECHO, of 4 or more in the CLIFF.
        LentAir e = told("valley 3 1;ground 1 2;ground 2 1;maker 3 0 0;");
        e.ears(2, 1);
        due("who(0, -1)", e.who(0, -1), 15);
        due("who(0, 0)", e.who(0, 0), 6);
        int[][] bad = {{-1, 0}, {24, 0}, {0, -2}, {0, Integer.MIN_VALUE}};
        for (int[] b : bad) {
            long status = e.status(0);
            due("who(" + b[0] + ", " + b[1] + ")", e.who(b[0], b[1]), -10);
            due("status(0)", e.status(0), status + 1);
        }
    }

    private static void still() {
        promise = 22;
        LentAir x = told("valley 3 1;air 1 1;air 2 2;maker 0 0 0;maker 1 0 0;");
        due("still(9, 0, 2)", x.still(9, 0, 2), 0);
        due("still(9, 0, 0)", x.still(9, 0, 0), -1);
        x.leave(0, 1, 0, 23, 20);
        x.leave(0, 2, 0, 23, 20);
        due("still(9, 0, 2): of like ones the least", x.still(9, 0, 2), 1);
        due("still(9, 0, 1)", x.still(9, 0, 1), 1);
        due("still(2, 0, 2): it comes not so far", x.still(2, 0, 2), 0);
        x.leave(1, 1, 4, 4, 20);
        due("still(9, 0, 2)", x.still(9, 0, 2), 1);
        due("still(9, 4, 2): the other one has no LEAVE of 2", x.still(9, 4, 2), 1);
        x.leave(1, 2, 0, 23, 20);
        due("still(9, 4, 2)", x.still(9, 4, 2), 5);
        due("still(9, 3, 2)", x.still(9, 3, 2), 1);
        x.leave(0, 1, 0, 23, 20);
        due("still(9, 3, 2): two by 1, one by 2", x.still(9, 3, 2), 2);
        due("still(9, 3, 1)", x.still(9, 3, 1), 17);
        due("count(3): all stay", x.count(3), 5);
        // By ECHOES neither.
        LentAir e = told("valley 3 1;ground 1 2;ground 2 1;air 2 1;maker 3 0 0;maker 0 0 0;leave 1 1 0 9 20;");
        e.put(1, 0, 1);
        due("still(6, 0, 2)", e.still(6, 0, 2), 1);
        due("still(6, 10, 2)", e.still(6, 10, 2), 0);
        LentAir t = told("valley 2 1;maker 5 0 0;");
        due("still(2, 0, 1): THUNDER needs no LEAVE", t.still(2, 0, 1), -1);
        due("still(1, 0, 1)", t.still(1, 0, 1), 0);
        due("still() without MAKERS", new LentAir().still(20, 23, 24), 0);
        int[][] bad = {{0, 0, 0}, {21, 0, 0}, {1, -1, 0}, {1, 24, 0}, {1, 0, -1}, {1, 0, 2}};
        for (int[] b : bad) {
            long status = t.status(0);
            due("still(" + b[0] + ", " + b[1] + ", " + b[2] + ")", t.still(b[0], b[1], b[2]), -2);
            due("status(0)", t.status(0), status + 1);
        }
    }

    private static void cry() {
        promise = 23;
        LentAir x = new LentAir();
        due("cry(0, 0)", x.cry(0, 0), -2);
        x.maker(0, 0, 0);
        x.maker(0, 0, 0);
        due("cry(0, 20)", x.cry(0, 20), 5);
        due("cry(0, 0)", x.cry(0, 0), 20);
        due("cry(0, 5)", x.cry(0, 5), 0);
        due("cry(1, 5)", x.cry(1, 5), 5);
        int[][] bad = {{-1, 0}, {2, 0}, {0, -1}, {0, 21}};
        for (int[] b : bad) {
            long before = x.digest();
            long status = x.status(0);
            due("cry(" + b[0] + ", " + b[1] + ")", x.cry(b[0], b[1]), -2);
            refused(x, 0, before, status);
        }
    }

    private static void way(LentAir x, int from, int to, int hour, int many, int next) {
        String call = "criers(" + from + ", " + to + ", " + hour + ", ";
        due(call + "0)", x.criers(from, to, hour, 0), many);
        due(call + "1)", x.criers(from, to, hour, 1), next);
    }

    private static void criers() {
        promise = 24;
        // 0 cries to CELLS 0 to 2, 1 from 2 to both sides as far, 2 from 4; 3 stands where 1 does.
        LentAir x = told("valley 6 1;air 5 1;maker 0 0 0;maker 0 2 0;maker 0 4 0;maker 0 2 0;maker 0 5 0;");
        for (int m = 0; m < 5; m++) {
            x.cry(m, 3);
        }
        way(x, 0, 0, 0, 1, -1);
        way(x, 0, 1, 0, 2, 1);
        way(x, 0, 3, 0, 2, 3);
        way(x, 0, 2, 0, 3, 1);
        way(x, 2, 0, 0, 3, 1);
        way(x, 0, 4, 0, -1, -1);
        way(x, 4, 0, 0, 4, 2);
        x.cry(1, 0);
        way(x, 0, 2, 0, 3, 3);
        way(x, 1, 0, 0, -1, -1);
        way(x, 1, 1, 0, 1, -1);
        way(x, 0, 1, 0, 2, 1);
        x.cry(0, 20);
        way(x, 0, 2, 0, 2, 2);
        x.leave(2, 1, 7, 7, 2);
        way(x, 0, 4, 7, 3, 2);
        way(x, 0, 4, 8, -1, -1);
        // A CRY of 1 is heard in his own CELL; the least one behind him may be number 0.
        x.cry(1, 1);
        way(x, 1, 3, 0, 2, 3);
        way(x, 1, 0, 0, 3, 3);
        x.cry(2, 20);
        way(x, 2, 0, 0, 2, 0);
        // By an ECHO: the WHISPER's own way does not come into the HEDGE.
        LentAir e = told("valley 3 1;ground 1 2;ground 2 1;maker 3 0 0;maker 0 2 0;");
        way(e, 0, 1, 0, -1, -1);
        e.cry(0, 6);
        way(e, 0, 1, 0, 2, 1);
        int[][] bad = {{-1, 0, 0, 0}, {2, 0, 0, 0}, {0, -1, 0, 0}, {0, 2, 0, 0}, {0, 0, -1, 0}, {0, 0, 24, 0},
            {0, 0, 0, -1}, {0, 0, 0, 2}};
        for (int[] b : bad) {
            long status = e.status(0);
            due("criers(" + b[0] + ", " + b[1] + ", " + b[2] + ", " + b[3] + ")", e.criers(b[0], b[1], b[2], b[3]), -2);
            due("status(0)", e.status(0), status + 1);
        }
    }

    private static void let() {
        promise = 25;
        LentAir x = new LentAir();
        due("let(0, 5)", x.let(0, 5), -1);
        due("let(0, 1)", x.let(0, 1), 5);
        due("let(0, -1)", x.let(0, -1), 1);
        due("let(0, -1)", x.let(0, -1), -1);
        due("let(5, 0)", x.let(5, 0), -1);
        int[][] bad = {{-1, 0}, {6, 0}, {0, -2}, {0, 6}, {0, 0}, {5, 5}, {-1, -1}};
        for (int[] b : bad) {
            long before = x.digest();
            long status = x.status(0);
            due("let(" + b[0] + ", " + b[1] + ")", x.let(b[0], b[1]), -2);
            refused(x, 0, before, status);
        }
    }

    private static void liable() {
        promise = 26;
        LentAir x = new LentAir();
        due("liable(3): he himself", x.liable(3), 3);
        for (int o = 0; o < 5; o++) {
            x.let(o, o + 1);
        }
        due("liable(0): by all five", x.liable(0), 5);
        due("liable(5)", x.liable(5), 5);
        x.let(5, 3);
        due("liable(0): into a ring", x.liable(0), -1);
        due("liable(4): on a ring", x.liable(4), -1);
        x.let(2, -1);
        due("liable(0)", x.liable(0), 2);
        due("liable(-1)", x.liable(-1), -2);
        due("liable(6)", x.liable(6), -2);
        due("status(0)", x.status(0), 2);
    }

    private static void rings() {
        promise = 27;
        LentAir x = new LentAir();
        due("rings()", x.rings(), 0);
        for (int o = 0; o < 6; o++) {
            x.let(o, (o + 1) % 6);
        }
        due("rings(): one of all", x.rings(), 63);
        x.let(5, 3);
        due("rings(): 0, 1, 2 only come to one", x.rings(), 56);
        x.let(1, 0);
        due("rings(): two", x.rings(), 59);
        x.let(4, -1);
        due("rings()", x.rings(), 3);
    }

    private static void first() {
        promise = 28;
        LentAir x = told("valley 3 1;air 1 1;air 2 1;maker 0 0 0;leave 0 1 7 9 5;leave 0 1 23 23 9;");
        due("first(0, 6, 0, 2)", x.first(0, 6, 0, 2), 7);
        due("first(0, 6, 7, 2)", x.first(0, 6, 7, 2), 7);
        due("first(0, 6, 9, 2)", x.first(0, 6, 9, 2), 9);
        due("first(0, 6, 10, 2)", x.first(0, 6, 10, 2), 23);
        due("first(0, 7, 0, 2): too LOUD at 7", x.first(0, 7, 0, 2), 23);
        due("first(0, 11, 0, 2)", x.first(0, 11, 0, 2), -1);
        due("first(0, 2, 0, 2)", x.first(0, 2, 0, 2), -1);
        due("first(0, 1, 23, 0)", x.first(0, 1, 23, 0), 23);
        x.take(1);
        due("first(0, 6, 10, 2): not beyond 23", x.first(0, 6, 10, 2), -1);
        LentAir e = told("valley 3 1;ground 1 2;ground 2 1;air 2 1;maker 3 0 0;leave 0 1 4 4 20;");
        due("first(0, 6, 0, 2): by an ECHO", e.first(0, 6, 0, 2), 4);
        int[][] bad = {{-1, 1, 0, 0}, {1, 1, 0, 0}, {0, 0, 0, 0}, {0, 21, 0, 0}, {0, 1, -1, 0}, {0, 1, 24, 0},
            {0, 1, 0, -1}, {0, 1, 0, 3}};
        for (int[] b : bad) {
            long status = e.status(0);
            due("first(" + b[0] + ", " + b[1] + ", " + b[2] + ", " + b[3] + ")", e.first(b[0], b[1], b[2], b[3]), -2);
            due("status(0)", e.status(0), status + 1);
        }
    }

    private static void peal() {
        promise = 29;
        LentAir x = told("valley 6 1;air 3 1;maker 0 0 0;leave 0 1 5 5 4;");
        due("peal(0, 0, 0)", x.peal(0, 0, 0), 3);
        due("peal(0, 0, 1)", x.peal(0, 0, 1), 3);
        due("peal(0, 5, 0): 7 is heard in all, what is louder not", x.peal(0, 5, 0), 6);
        due("peal(0, 5, 1)", x.peal(0, 5, 1), 6);
        LentAir e = told("valley 4 1;ground 1 2;ground 2 1;ground 3 2;maker 3 0 0;");
        due("peal(0, 0, 0): ECHOES count", e.peal(0, 0, 0), 6);
        due("peal(0, 0, 1)", e.peal(0, 0, 1), 3);
        // A way of 20 CELLS and more in his own AIR: only 20 comes to the 20th.
        LentAir far = new LentAir();
        far.valley(6, 6);
        for (int cell : new int[] {6, 7, 8, 9, 10, 19, 20, 21, 22, 23}) {
            far.put(1, cell, 1);
        }
        for (int cell : new int[] {30, 31, 32, 33, 34}) {
            far.put(1, cell, 1);
        }
        far.maker(0, 0, 0);
        due("peal(0, 0, 0)", far.peal(0, 0, 0), 20);
        due("peal(0, 0, 1)", far.peal(0, 0, 1), 20);
        LentAir one = told("valley 1 1;maker 0 0 0;");
        due("peal(0, 23, 0): of like ones the least", one.peal(0, 23, 0), 1);
        due("peal(0, 23, 1)", one.peal(0, 23, 1), 1);
        int[][] bad = {{-1, 0, 0}, {1, 0, 0}, {0, -1, 0}, {0, 24, 0}, {0, 0, -1}, {0, 0, 2}};
        for (int[] b : bad) {
            long status = one.status(0);
            due("peal(" + b[0] + ", " + b[1] + ", " + b[2] + ")", one.peal(b[0], b[1], b[2]), -2);
            due("status(0)", one.status(0), status + 1);
        }
    }

    private static void thunder() {
        promise = 30;
        LentAir x = new LentAir();
        due("thunder(5, 0)", x.thunder(5, 0), 0);
        // X is 12345: CELL 0, 4 so LOUD.
        due("thunder(0, 1)", x.thunder(0, 1), 10);
        x.valley(6, 1);
        due("thunder(0, 1)", x.thunder(0, 1), 4);
        // X is 1103527590: 16838 by 36 leaves CELL 26, 269415 by 9 leaves 0: 1 so LOUD.
        x.valley(6, 6);
        due("thunder(1, 1)", x.thunder(1, 1), 1);
        for (int seed : new int[] {0, 1, 2, 3, 42, 999999}) {
            for (int n = 0; n < 4; n++) {
                due("thunder(" + seed + ", " + n + ")", x.thunder(seed, n), thunderByHand(seed, n, 6, 6));
            }
        }
        for (int cell = 0; cell < 36; cell++) {
            x.put(0, cell, 1 + cell % 2);
            x.put(1, cell, cell % 6);
        }
        due("thunder(1, 1): whatever GROUND, AIR", x.thunder(1, 1), thunderByHand(1, 1, 6, 6));
        due("thunder(7, 60)", x.thunder(7, 60), 36);
        int[][] bad = {{-1, 0}, {1000000, 0}, {0, -1}, {0, 61}};
        for (int[] b : bad) {
            long status = x.status(0);
            due("thunder(" + b[0] + ", " + b[1] + ")", x.thunder(b[0], b[1]), -2);
            due("status(0)", x.status(0), status + 1);
        }
    }

    private static int thunderByHand(int seed, int n, int w, int h) {
        java.math.BigInteger x = java.math.BigInteger.valueOf(seed);
        java.util.Set<Integer> some = new java.util.TreeSet<>();
        for (int i = 0; i < n; i++) {
            x = x.multiply(new java.math.BigInteger("1103515245")).add(new java.math.BigInteger("12345"))
                .mod(new java.math.BigInteger("2147483648"));
            int v = x.intValueExact();
            int at = v / 65536 % (w * h);
            int loud = v / 4096 % 9 + 1;
            for (int cell = 0; cell < w * h; cell++) {
                if (Math.abs(cell % w - at % w) + Math.abs(cell / w - at / w) < loud) {
                    some.add(cell);
                }
            }
        }
        return some.size();
    }

    private static void image() {
        promise = 31;
        LentAir x = new LentAir();
        due("image(0)", x.image(0), 1);
        due("image(1)", x.image(1), 1);
        due("image(0)", x.image(0), 1);
        for (int i : new int[] {-1, 2, Integer.MAX_VALUE}) {
            long before = x.digest();
            long status = x.status(0);
            due("image(" + i + ")", x.image(i), -2);
            refused(x, 0, before, status);
        }
    }

    private static void from() {
        promise = 32;
        LentAir x = new LentAir();
        long before = x.digest();
        due("from(0)", x.from(0), -3);
        refused(x, 1, before, 0);
        due("from(-1)", x.from(-1), -2);
        due("from(2)", x.from(2), -2);
        tell(x, "valley 4 3;ground 1 2;ground 2 1;air 1 3;fee 3 33;maker 3 0 0;maker 0 5 1;leave 0 1 2 3 4;");
        x.leave(1, 2, 3, 4, 5);
        x.take(0);
        x.cry(1, 17);
        x.ears(11, 2);
        x.let(4, 2);
        x.clear();
        long told = x.digest();
        x.image(1);
        x.valley(6, 6);
        x.maker(5, 35, 5);
        x.leave(0, 0, 0, 0, 1);
        long other = x.digest();
        x.image(0);
        x.take(7);
        x.type(32);
        due("from(1)", x.from(1), 1);
        due("count(5): THE TEXT stays", x.count(5), 1);
        due("status(0): it stays", x.status(0), 3);
        due("status(1): it stays", x.status(1), 1);
        x.clear();
        due("digest() as it was kept", x.digest(), told);
        due("far(0, 9, 0)", x.far(0, 9, 0), 8);
        due("undo(): what may be undone is kept", x.undo(), 2);
        due("about(0, 0)", x.about(0, 0), 0);
        due("undo()", x.undo(), 1);
        due("undo()", x.undo(), -3);
        x.put(0, 0, 1);
        x.fee(0, 44);
        due("from(1): the IMAGE is as it was kept", x.from(1), 1);
        due("digest()", x.digest(), told);
        due("from(0)", x.from(0), 1);
        due("digest()", x.digest(), other);
        due("from(0)", x.from(0), 1);
        due("digest()", x.digest(), other);
    }

    private static void status() {
        promise = 33;
        LentAir x = new LentAir();
        for (int i = 0; i < 3; i++) {
            due("status(" + i + ")", x.status(i), 0);
        }
        due("status(3)", x.status(3), -1);
        due("status(-1)", x.status(-1), -1);
        due("status(0): another what counts as BAD", x.status(0), 2);
        x.undo();
        x.from(1);
        due("status(1)", x.status(1), 2);
        for (int i = 0; i < 9; i++) {
            x.maker(0, 0, 0);
        }
        due("status(2)", x.status(2), 3);
        due("status(0)", x.status(0), 2);
        x.trespass(9, 9, 9, 9);
        x.buy(9, 9, 9, 9);
        due("status(0): -10 is BAD, too", x.status(0), 4);
        for (int i = 0; i < 9; i++) {
            x.put(0, i, 2);
        }
        x.mend(0, 1, 0);
        due("status(1): -20 is NO, too", x.status(1), 3);
        x.trespass(0, 1, 0, 30);
        x.who(0, 500);
        x.criers(0, 0, 0, 1);
        x.still(1, 0, 0);
        x.read();
        due("status(0): NONE, -5, a FAULT are no refusals", x.status(0), 4);
        due("status(1)", x.status(1), 3);
        due("status(2)", x.status(2), 3);
    }

    private static void count() {
        promise = 34;
        LentAir x = told("valley 6 2;maker 0 0 0;maker 0 0 0;leave 0 0 0 0 1;");
        x.leave(0, 1, 1, 1, 1);
        x.leave(0, 1, 1, 1, 1);
        x.take(2);
        x.clear();
        x.type(32);
        int[] counts = {6, 2, 2, 2, 3, 1};
        for (int what = 0; what < 6; what++) {
            due("count(" + what + ")", x.count(what), counts[what]);
        }
        for (int what : new int[] {-1, 6, Integer.MAX_VALUE, Integer.MIN_VALUE}) {
            long status = x.status(0);
            due("count(" + what + ")", x.count(what), -2);
            due("status(0)", x.status(0), status + 1);
        }
    }

    private static void digest() {
        promise = 35;
        LentAir x = told("valley 2 1;ground 1 2;air 0 3;fee 1 50;maker 4 1 2;leave 0 5 6 7 8;");
        x.ears(0, 1);
        x.let(2, 4);
        x.cry(0, 11);
        x.leave(0, 1, 2, 3, 4);
        x.clear();
        x.type(32);
        long[] values = {2, 1, 1, 2, 1, 1, 0, 3, 1, 2, 0, 0, 1, 50, 1, 1, 1, 1, -1, -1, 4, -1, -1, -1, 4, 1, 2, 11,
            0, 5, 6, 7, 8, 0, 1, 2, 3, 4};
        long h = 829;
        for (long v : values) {
            h = 31 * h + v;
        }
        due("digest()", x.digest(), h);
        due("digest() again", x.digest(), h);
    }
}
