import java.io.IOException;
import java.nio.charset.StandardCharsets;
import java.nio.file.Files;
import java.nio.file.Path;
import java.util.Arrays;
import java.util.LinkedHashMap;
import java.util.Map;
import java.util.function.Supplier;

/**
 * Tests that each name a sentence of the document. The sentences of a part, put together in their order, must be the
 * part's whole text: so none is left out.
 */
final class Boundary {
    /** One call of the class, with its numbers in their order. */
    interface Call {
        long on(LentAir x, int... n);
    }

    static final int BAD = 0, NO = 1, FULL = 2, NOT_REFUSED = -1;
    private static final int[] REASONS = {BAD, NO, FULL};
    private static final String[] COUNTS = {"W", "H", "MAKERS", "LEAVES", "that may be undone", "bytes of THE TEXT"};

    private static final Map<String, StringBuilder> PARTS = new LinkedHashMap<>();
    private static String part = "";
    private static String sentence = "";
    private static int tests = 0;
    private static int answers = 0;
    private static int wrong = 0;

    private Boundary() {
    }

    // ---- sentences

    static void part(String name) {
        part = name;
        PARTS.put(name, new StringBuilder());
    }

    /** The part's next sentence, and its test, which must ask for at least one answer. */
    static void asks(String words, Runnable test) {
        says(words);
        sentence = words;
        int before = answers;
        tests++;
        try {
            test.run();
        } catch (RuntimeException e) {
            fails("the test threw " + e);
        }
        if (answers == before) {
            fails("the test asks for nothing");
        }
    }

    /** The part's next sentence, which tells of no boundary. */
    static void says(String words) {
        PARTS.get(part).append(' ').append(words);
    }

    private static void fails(String what) {
        wrong++;
        System.out.println(part + ", \"" + sentence + "\": " + what);
    }

    static void end() throws IOException {
        sentence = "all sentences have a test";
        Path file = Path.of(System.getenv().getOrDefault("LENTAIR_ROOT", "."), "..", "shared", "DOC.md");
        if (Files.isReadable(file)) {
            compare(Files.readString(file, StandardCharsets.UTF_8));
        } else {
            System.out.println("no " + file + ": the sentences are not compared with it");
        }
        System.out.println(wrong == 0 ? tests + " sentences hold, " + answers + " answers" : wrong + " answers are wrong");
        if (wrong != 0) {
            System.exit(1);
        }
    }

    private static void compare(String doc) {
        for (String piece : doc.split("\n## ")) {
            int line = piece.indexOf('\n');
            String name = line < 0 ? piece : piece.substring(0, line);
            boolean isMine = PARTS.containsKey(name) || name.startsWith("Promise") && PARTS.keySet().toString().contains("Promise");
            if (isMine) {
                part = name;
                String told = flat(PARTS.getOrDefault(name, new StringBuilder()).toString());
                String due = flat(piece.substring(line).replaceAll("```(text)?|========|(?m)^`[^`]*`:", ""));
                if (!told.equals(due)) {
                    fails("the document has here\n    " + due + "\nthe tests name\n    " + told);
                }
            }
        }
    }

    private static String flat(String text) {
        return text.replaceAll("\\s+", " ").trim();
    }

    // ---- answers

    static void due(String call, long got, long want) {
        answers++;
        if (got != want) {
            fails(call + " answered " + got + ", due is " + want);
        }
    }

    static void louds(LentAir x, int maker, int loud, int hour, int... louds) {
        for (int cell = 0; cell < louds.length; cell++) {
            String call = "heard(" + maker + ", " + loud + ", " + hour + ", " + cell + ")";
            due(call, x.heard(maker, loud, hour, cell), louds[cell]);
        }
    }

    static void type(LentAir x, String text) {
        x.clear();
        for (char c : text.toCharArray()) {
            x.type(c);
        }
    }

    static LentAir told(String text) {
        LentAir x = new LentAir();
        type(x, text);
        due("read() of '" + text + "'", x.read(), text.chars().filter(c -> c == ';').count());
        return x;
    }

    // ---- refused calls

    /** Some of all; IMAGE 1 is one of all that, too, IMAGE 0 was kept from a new object. */
    static LentAir some() {
        LentAir x = new LentAir();
        x.image(0);
        x.undo();
        x.type(-1);
        type(x, "valley 4 3;ground 5 1;ground 6 2;ground 11 2;air 1 1;air 6 3;fee 2 40;maker 0 5 1;maker 4 2 0;leave 1 2 5 9 12;");
        x.read();
        x.leave(0, 3, 0, 23, 20);
        x.leave(0, 1, 2, 3, 4);
        x.take(1);
        x.ears(0, 1);
        x.ears(9, 2);
        x.let(1, 2);
        x.let(3, 1);
        x.cry(1, 20);
        x.image(1);
        x.put(0, 0, 2);
        x.fee(0, 9);
        return x;
    }

    /** As much of all as may be, but no EARS; IMAGE 1 was never kept, IMAGE 0 is as full. */
    static LentAir full() {
        LentAir x = new LentAir();
        x.valley(6, 6);
        for (int cell = 0; cell < 36; cell++) {
            x.put(0, cell, cell % 4 == 3 ? 2 : cell % 5 == 1 ? 1 : 0);
            x.put(1, cell, cell % 6);
        }
        for (int maker = 0; maker < 6; maker++) {
            x.maker(maker, 7 * maker, maker);
        }
        for (int leave = 0; leave < 8; leave++) {
            x.leave(leave % 6, (leave + 1) % 6, leave, 23, 20 - leave);
        }
        type(x, "valley 3 3;fee 5 6;" + " ".repeat(131));
        x.image(0);
        x.maker(0, 0, 0);
        return x;
    }

    /** The call is refused as told, in a valley with some of all and in a full one. */
    static void refused(String name, Call call, long answer, int reason, int... numbers) {
        refusedIn("some()", Boundary::some, name, call, answer, reason, numbers);
        refusedIn("full()", Boundary::full, name, call, answer, reason, numbers);
    }

    /** Two objects like each other: one call more on one of them answers so, and but for STATUS they stay alike. */
    static void refusedIn(String where, Supplier<LentAir> start, String name, Call call, long answer, int reason, int... numbers) {
        LentAir x = start.get();
        LentAir y = start.get();
        String told = name + Arrays.toString(numbers) + " in " + where;
        due(told, call.on(x, numbers), answer);
        for (int other : REASONS) {
            due("status(" + other + ") behind " + told, x.status(other), y.status(other) + (other == reason ? 1 : 0));
        }
        alike(told, x, y);
    }

    /** They are asked until nothing is left of them: what is now, what may be undone, THE TEXT, IMAGES. */
    static void alike(String told, LentAir x, LentAir y) {
        asNow(told, x, y);
        undone(told, x, y);
        for (int image = 0; image < 2; image++) {
            due("from(" + image + ") behind " + told, x.from(image), y.from(image));
            asNow("from(" + image + ") behind " + told, x, y);
            undone("from(" + image + ") behind " + told, x, y);
        }
        due("read() behind " + told, x.read(), y.read());
        asNow("read() behind " + told, x, y);
    }

    private static void asNow(String told, LentAir x, LentAir y) {
        for (int what = 0; what < COUNTS.length; what++) {
            due("count of " + COUNTS[what] + " behind " + told, x.count(what), y.count(what));
        }
        due("digest() behind " + told, x.digest(), y.digest());
        for (int maker = 0; maker < y.count(2); maker++) {
            due("far(" + maker + ", 9, 5) behind " + told, x.far(maker, 9, 5), y.far(maker, 9, 5));
        }
    }

    private static void undone(String told, LentAir x, LentAir y) {
        for (int i = 0; i < 9; i++) {
            due("undo() behind " + told, x.undo(), y.undo());
            due("digest() behind undo() behind " + told, x.digest(), y.digest());
        }
    }

    /**
     * One number, all others as they are: refused as BAD just above the most in a valley with some of all (in a full
     * one there may be more of them), just below the least and far off in a full one, too.
     */
    static void outside(String name, Call call, long answer, int at, int least, int most, int... numbers) {
        for (int n : new int[] {least - 1, most + 1, Integer.MIN_VALUE, Integer.MAX_VALUE}) {
            int[] changed = numbers.clone();
            changed[at] = n;
            if (n == most + 1 && n > most) {
                refusedIn("some()", Boundary::some, name, call, answer, BAD, changed);
            } else if (n < least || n > most) {
                refused(name, call, answer, BAD, changed);
            }
        }
    }

    /** The call is not refused, in a valley with some of all. */
    static void taken(String name, Call call, int... numbers) {
        LentAir x = some();
        int[] before = {x.status(BAD), x.status(NO), x.status(FULL)};
        call.on(x, numbers);
        for (int reason : REASONS) {
            due("status(" + reason + ") behind " + name + Arrays.toString(numbers), x.status(reason), before[reason]);
        }
    }

    /** One number, all others as they are: the least and the most are not refused. */
    static void inside(String name, Call call, int at, int least, int most, int... numbers) {
        for (int n : new int[] {least, most}) {
            int[] changed = numbers.clone();
            changed[at] = n;
            taken(name, call, changed);
        }
    }

    /** Both: what is told as a number's least and most is taken, what is beyond refused. */
    static void edges(String name, Call call, long answer, int at, int least, int most, int... numbers) {
        inside(name, call, at, least, most, numbers);
        outside(name, call, answer, at, least, most, numbers);
    }

    /** THE TEXT has a FAULT there, and all stays. */
    static void fault(String text, int place) {
        Supplier<LentAir> typed = () -> {
            LentAir x = some();
            type(x, text);
            return x;
        };
        refusedIn("'" + text + "'", typed, "read", (x, n) -> x.read(), -10 - place, NOT_REFUSED);
    }
}
