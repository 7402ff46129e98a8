import java.util.Random;

/** Random runs of calls, the same each time, answered by LentAir and by PlainValley: no answer may differ. */
public final class ModelTest {
    private static final int RUNS = Integer.getInteger("runs", 1500);
    /** What an object answers behind its 512th call is free. */
    private static final int CALLS = 512;
    private static final int CALLS_OF_A_STEP = 3;
    /** A few bytes more than there is room for. */
    private static final int LONGEST_TEXT = 155;
    private static int wrong = 0;

    private final Random random;
    private final int run;
    private final LentAir air = new LentAir();
    private final PlainValley plain = new PlainValley();
    private final boolean wild;
    private final boolean dear;
    private int calls;

    private ModelTest(int run) {
        this.run = run;
        random = new Random(run);
        wild = run % 5 == 0;
        dear = run % 3 == 0;
    }

    public static void main(String[] args) {
        Watch.start();
        for (int run = 0; run < RUNS && wrong < 20; run++) {
            new ModelTest(run).play();
        }
        System.out.println(wrong == 0 ? RUNS + " random runs are as the plain valley's" : wrong + " answers differ");
        if (wrong != 0) {
            System.exit(1);
        }
    }

    private void play() {
        settle();
        while (calls < CALLS - CALLS_OF_A_STEP && wrong < 20) {
            int dice = random.nextInt(100);
            if (dice < 30) {
                change();
            } else if (dice < (dear ? 75 : 97)) {
                ask();
            } else {
                askDear();
            }
        }
        same("digest()", air.digest(), plain.digest());
    }

    private void same(String call, long got, long want) {
        calls++;
        if (got != want) {
            wrong++;
            System.out.println("run " + run + ": " + call + " answered " + got + ", the plain valley " + want);
        }
    }

    // ---- arguments: most as told, some just beyond, some far beyond

    private int arg(int least, int most) {
        if (random.nextInt(wild ? 8 : 60) == 0) {
            int[] odd = {least - 1, most + 1, least - 2, Integer.MIN_VALUE, Integer.MAX_VALUE, 0, -1, most + 2, 64, 1 << 30};
            return odd[random.nextInt(odd.length)];
        }
        return most < least ? least : least + random.nextInt(most - least + 1);
    }

    private int cell() {
        return arg(0, plain.s.w * plain.s.h - 1);
    }

    private int maker() {
        return arg(0, plain.s.makers.size() - 1);
    }

    private int leaveNumber() {
        return arg(0, plain.s.leaves.size() - 1);
    }

    private int loud() {
        return arg(1, random.nextInt(3) == 0 ? 20 : 9);
    }

    private int hour() {
        return arg(0, random.nextInt(2) == 0 ? 23 : 4);
    }

    private int owner() {
        return arg(0, random.nextInt(2) == 0 ? 5 : 2);
    }

    private int which() {
        return arg(0, 1);
    }

    private int index() {
        return random.nextBoolean() ? -1 : arg(0, 12);
    }

    // ---- calls

    /** Many CLIFFS of few OWNERS, LEAVES for all day: ECHOES that come far. */
    private void settleForEchoes() {
        valley(3 + random.nextInt(4), 2 + random.nextInt(5));
        int cells = plain.s.w * plain.s.h;
        for (int cell = 0; cell < cells; cell++) {
            put(1, cell, random.nextInt(2 + run % 3));
        }
        for (int i = 0; i < 8; i++) {
            put(0, random.nextInt(cells), i < 6 ? 2 : 1);
        }
        for (int i = 0; i < 6; i++) {
            same("maker of " + i, air.maker((i + run) % 6, i * 7 % cells, i % 3), plain.maker((i + run) % 6, i * 7 % cells, i % 3));
        }
        for (int i = 0; i < 8; i++) {
            int loud = 1 + random.nextInt(20);
            int to = random.nextInt(4);
            same("leave of " + i, air.leave(i % 6, to, 0, 23, loud), plain.leave(i % 6, to, 0, 23, loud));
        }
    }

    private void settle() {
        if (run % 4 == 1) {
            settleForEchoes();
            return;
        }
        if (random.nextInt(10) > 0) {
            valley(1 + random.nextInt(6), 1 + random.nextInt(6));
            if (random.nextInt(3) > 0) {
                valley(3 + random.nextInt(4), 3 + random.nextInt(4));
            }
        }
        for (int i = random.nextInt(20); i > 0; i--) {
            put(1, cell(), owner());
        }
        for (int i = random.nextInt(12); i > 0; i--) {
            put(0, cell(), arg(0, 2));
        }
        for (int i = random.nextInt(7); i > 0; i--) {
            addMaker();
        }
        for (int i = random.nextInt(9); i > 0; i--) {
            addLeave();
        }
    }

    private void valley(int w, int h) {
        same("valley(" + w + ", " + h + ")", air.valley(w, h), plain.valley(w, h));
    }

    private void put(int what, int cell, int v) {
        same("put(" + what + ", " + cell + ", " + v + ")", air.put(what, cell, v), plain.put(what, cell, v));
    }

    private void addMaker() {
        int kind = arg(0, 5);
        int cell = cell();
        int owner = owner();
        same("maker(" + kind + ", " + cell + ", " + owner + ")", air.maker(kind, cell, owner), plain.maker(kind, cell, owner));
    }

    private void addLeave() {
        int maker = maker();
        int owner = owner();
        int from = random.nextInt(3) == 0 ? hour() : 0;
        int to = random.nextInt(3) == 0 ? hour() : 23;
        int loud = loud();
        same("leave(" + maker + ", " + owner + ", " + from + ", " + to + ", " + loud + ")",
            air.leave(maker, owner, from, to, loud), plain.leave(maker, owner, from, to, loud));
    }

    private void change() {
        switch (random.nextInt(16)) {
            case 0: case 1: put(0, cell(), arg(0, 2)); break;
            case 2: case 3: put(which(), cell(), owner()); break;
            case 4: addMaker(); break;
            case 5: case 6: addLeave(); break;
            case 7: {
                int i = leaveNumber();
                same("take(" + i + ")", air.take(i), plain.take(i));
                break;
            }
            case 8: same("undo()", air.undo(), plain.undo()); break;
            case 9: case 10: {
                int c = cell();
                int v = arg(0, 2);
                same("ears(" + c + ", " + v + ")", air.ears(c, v), plain.ears(c, v));
                break;
            }
            case 11: {
                int o = owner();
                int n = arg(0, 99);
                same("fee(" + o + ", " + n + ")", air.fee(o, n), plain.fee(o, n));
                break;
            }
            case 12: {
                int m = maker();
                int l = arg(0, 20);
                same("cry(" + m + ", " + l + ")", air.cry(m, l), plain.cry(m, l));
                break;
            }
            case 13: {
                int o = owner();
                int to = arg(-1, 5);
                same("let(" + o + ", " + to + ")", air.let(o, to), plain.let(o, to));
                break;
            }
            default: changeMuch();
        }
    }

    private void changeMuch() {
        int i = which();
        switch (random.nextInt(8)) {
            case 0: case 1: case 2: same("image(" + i + ")", air.image(i), plain.image(i)); break;
            case 3: case 4: same("from(" + i + ")", air.from(i), plain.from(i)); break;
            case 5: same("clear()", air.clear(), plain.clear()); break;
            case 6:
                if (calls + LONGEST_TEXT + 2 + CALLS_OF_A_STEP < CALLS) {
                    text();
                }
                break;
            default:
                if (random.nextInt(12) == 0) {
                    valley(arg(1, 6), arg(1, 6));
                }
        }
    }

    private void text() {
        if (random.nextInt(4) > 0) {
            same("clear()", air.clear(), plain.clear());
        }
        String some = someText();
        for (char c : some.substring(0, Math.min(some.length(), LONGEST_TEXT)).toCharArray()) {
            int b = random.nextInt(700) == 0 ? arg(0, 127) : c;
            same("type(" + b + ")", air.type(b), plain.type(b));
        }
        same("read() of '" + plain.text + "'", air.read(), plain.read());
    }

    private String someText() {
        StringBuilder text = new StringBuilder();
        int w = 1 + random.nextInt(6);
        int h = 1 + random.nextInt(6);
        text.append("valley ").append(w).append(' ').append(h).append(';');
        String[] words = {"ground", "air", "fee", "maker", "leave"};
        for (int n = random.nextInt(12); n > 0; n--) {
            int word = random.nextInt(5);
            int[][] most = {{w * h - 1, 2}, {w * h - 1, 5}, {5, 99}, {5, w * h - 1, 5}, {1, 5, 9, 23, 20}};
            blanks(text);
            text.append(words[word]).append(' ');
            for (int i = 0; i < most[word].length; i++) {
                blanks(text);
                if (random.nextInt(30) == 0) {
                    text.append('0');
                }
                text.append(random.nextInt(40) == 0 ? random.nextInt(110) : random.nextInt(most[word][i] + 1));
                text.append(i + 1 < most[word].length ? ' ' : ';');
            }
            blanks(text);
        }
        for (int n = random.nextInt(4); n == 0; n = random.nextInt(4)) {
            int at = random.nextInt(text.length());
            switch (random.nextInt(5)) {
                case 0: text.deleteCharAt(at); break;
                case 1: text.insert(at, ' '); break;
                case 2: text.insert(at, (char) random.nextInt(128)); break;
                case 3: text.insert(at, ";"); break;
                default: text.setLength(at);
            }
            if (text.length() == 0) {
                break;
            }
        }
        return text.toString();
    }

    private void blanks(StringBuilder text) {
        while (random.nextInt(12) == 0) {
            text.append(' ');
        }
    }

    private void ask() {
        int m = maker();
        int l = loud();
        int h = hour();
        int c = cell();
        int i = index();
        int w = which();
        String sound = "(" + m + ", " + l + ", " + h;
        switch (random.nextInt(16)) {
            case 0: case 1: case 2: case 3:
                same("heard" + sound + ", " + c + ")", air.heard(m, l, h, c), plain.heard(m, l, h, c)); break;
            case 4: same("far" + sound + ")", air.far(m, l, h), plain.far(m, l, h)); break;
            case 5: same("cost" + sound + ")", air.cost(m, l, h), plain.cost(m, l, h)); break;
            case 6: case 7:
                same("trespass" + sound + ", " + i + ")", air.trespass(m, l, h, i), plain.trespass(m, l, h, i)); break;
            case 8: case 9:
                same("carried" + sound + ", " + i + ")", air.carried(m, l, h, i), plain.carried(m, l, h, i)); break;
            case 10: {
                int to = maker();
                same("criers(" + m + ", " + to + ", " + h + ", " + w + ")", air.criers(m, to, h, w), plain.criers(m, to, h, w));
                break;
            }
            case 11: same("first" + sound + ", " + c + ")", air.first(m, l, h, c), plain.first(m, l, h, c)); break;
            case 12: {
                int o = owner();
                same("liable(" + o + ")", air.liable(o), plain.liable(o));
                same("rings()", air.rings(), plain.rings());
                break;
            }
            case 13: {
                int seed = arg(0, 999999);
                int n = arg(0, random.nextBoolean() ? 60 : 3);
                same("thunder(" + seed + ", " + n + ")", air.thunder(seed, n), plain.thunder(seed, n));
                break;
            }
            case 14: {
                int leave = leaveNumber();
                int what = arg(0, 4);
                same("about(" + leave + ", " + what + ")", air.about(leave, what), plain.about(leave, what));
                break;
            }
            default: {
                int what = arg(0, 5);
                int reason = arg(0, 2);
                same("count(" + what + ")", air.count(what), plain.count(what));
                same("status(" + reason + ")", air.status(reason), plain.status(reason));
                same("digest()", air.digest(), plain.digest());
            }
        }
    }

    private void askDear() {
        int m = maker();
        int l = loud();
        int h = hour();
        int c = cell();
        int i = random.nextInt(3) == 0 ? arg(0, 120) : index();
        int w = which();
        String sound = "(" + m + ", " + l + ", " + h;
        switch (random.nextInt(12)) {
            case 0: case 1: case 2: same("buy" + sound + ", " + w + ")", air.buy(m, l, h, w), plain.buy(m, l, h, w)); break;
            case 3: case 4: case 5: case 6: case 7:
                same("still(" + l + ", " + h + ", " + c + ")", air.still(l, h, c), plain.still(l, h, c)); break;
            case 8: case 9: same("mend" + sound + ")", air.mend(m, l, h), plain.mend(m, l, h)); break;
            case 10: same("who(" + h + ", " + i + ")", air.who(h, i), plain.who(h, i)); break;
            default: same("peal(" + m + ", " + h + ", " + w + ")", air.peal(m, h, w), plain.peal(m, h, w));
        }
    }
}
