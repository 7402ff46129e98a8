import java.io.File;
import java.io.IOException;
import java.lang.reflect.Method;
import java.lang.reflect.Modifier;
import java.nio.charset.StandardCharsets;
import java.nio.file.FileVisitOption;
import java.nio.file.FileVisitResult;
import java.nio.file.Files;
import java.nio.file.Path;
import java.nio.file.SimpleFileVisitor;
import java.nio.file.attribute.BasicFileAttributes;
import java.util.ArrayList;
import java.util.List;
import java.util.regex.Matcher;
import java.util.regex.Pattern;
import java.util.stream.Stream;

/** README.md: the answers that it tells are answered, its commands work in a clean copy, all calls and tests are named. */
public final class ReadmeTest {
    private static final Path ROOT = Path.of(System.getenv().getOrDefault("LENTAIR_ROOT", ".")).toAbsolutePath().normalize();
    private static final Pattern BLOCK = Pattern.compile("```(\\w+)\n(.*?)```", Pattern.DOTALL);
    /** A call, and the answer that is told behind it: "= 7". */
    private static final Pattern ANSWERED = Pattern.compile("(?:int (\\w+) = )?(\\S.*);\\s*// = (-?\\d+)\\b.*");
    private static final String OWN_RUN = ".ci/run";

    private static int wrong = 0;

    public static void main(String[] args) throws IOException, InterruptedException {
        Watch.start();
        String readme = Files.readString(ROOT.resolve("README.md"), StandardCharsets.UTF_8);
        Path folder = Files.createTempDirectory("readme");
        try {
            answers(blocks(readme, "java"), folder);
            commands(blocks(readme, "sh"), folder);
        } finally {
            drop(folder);
        }
        names(readme);
        System.out.println(wrong == 0 ? "README.md is so" : wrong + " things in README.md are not so");
        if (wrong != 0) {
            System.exit(1);
        }
    }

    private static List<String> blocks(String readme, String kind) {
        List<String> blocks = new ArrayList<>();
        Matcher m = BLOCK.matcher(readme);
        while (m.find()) {
            if (m.group(1).equals(kind)) {
                blocks.add(m.group(2));
            }
        }
        holds("README.md has a block of " + kind, !blocks.isEmpty());
        return blocks;
    }

    // ---- answers

    private static void answers(List<String> blocks, Path folder) throws IOException, InterruptedException {
        StringBuilder program = new StringBuilder("public class ReadmeUse {\n static int readmeWrong = 0, readmeTold = 0;\n"
            + " static void due(String call, long got, long want) {\n  readmeTold++;\n  if (got != want) {\n   readmeWrong++;\n"
            + "   System.out.println(call + \" answered \" + got + \", README.md tells \" + want);\n  }\n }\n"
            + " public static void main(String[] args) {\n");
        int told = 0;
        for (String line : String.join("", blocks).split("\n")) {
            Matcher m = ANSWERED.matcher(line.trim());
            if (m.matches()) {
                told++;
                String name = m.group(1);
                program.append(name == null ? "" : "int " + name + " = " + m.group(2) + ";\n");
                String call = m.group(2).replace("\\", "\\\\").replace("\"", "\\\"");
                program.append("due(\"").append(call).append("\", ").append(name == null ? m.group(2) : name);
                program.append(", ").append(m.group(3)).append("L);\n");
            } else {
                program.append(line).append('\n');
            }
        }
        program.append("System.exit(readmeWrong == 0 && readmeTold == ").append(told).append(" ? 0 : 1);\n }\n}\n");
        Path file = folder.resolve("ReadmeUse.java");
        Files.writeString(file, program);
        holds("README.md tells answers", told > 0);
        // Relative names on the class path are meant from where this test was started.
        holds("its answers are answered", run(Path.of("").toAbsolutePath(), "java", "-cp", System.getProperty("java.class.path"),
            file.toString()));
    }

    // ---- commands

    private static void commands(List<String> blocks, Path folder) throws IOException, InterruptedException {
        Path copy = folder.resolve("main");
        copy(ROOT.resolve("src"), copy.resolve("src"));
        Path shared = ROOT.toRealPath().resolveSibling("shared");
        if (Files.isDirectory(shared)) {
            copy(shared, folder.resolve("shared"));
        }
        boolean ownRun = false;
        for (String block : blocks) {
            if (block.contains(OWN_RUN)) {
                ownRun = true;
                holds("it is all of its block", block.trim().equals(OWN_RUN));
                holds(OWN_RUN + " is there to be run", Files.isExecutable(ROOT.resolve(OWN_RUN)));
            } else if (hasShared(block, folder)) {
                holds("this works:\n" + block, run(copy, "sh", "-e", "-c", block));
            }
        }
        holds(OWN_RUN + " is told", ownRun);
    }

    /** What a command takes from ../shared may be told there by another name one day: that is no fault of README.md. */
    private static boolean hasShared(String block, Path folder) {
        Matcher m = Pattern.compile("\\.\\./(shared/[\\w/.]+)").matcher(block);
        while (m.find()) {
            if (!Files.exists(folder.resolve(m.group(1)))) {
                System.out.println("no ../" + m.group(1) + ": the command of README.md that needs it is left out");
                return false;
            }
        }
        return true;
    }

    /** What it prints is shown only if it fails. */
    private static boolean run(Path where, String... command) throws IOException, InterruptedException {
        File shown = File.createTempFile("readme", ".txt");
        try {
            ProcessBuilder builder = new ProcessBuilder(command).directory(where.toFile()).redirectErrorStream(true).redirectOutput(shown);
            builder.environment().remove("LENTAIR_ROOT");
            boolean works = builder.start().waitFor() == 0;
            if (!works) {
                System.out.println(Files.readString(shown.toPath()));
            }
            return works;
        } finally {
            Files.delete(shown.toPath());
        }
    }

    private static void copy(Path from, Path to) throws IOException {
        try (Stream<Path> all = Files.walk(from, FileVisitOption.FOLLOW_LINKS)) {
            for (Path path : (Iterable<Path>) all::iterator) {
                Path target = to.resolve(from.relativize(path).toString());
                if (Files.isDirectory(path)) {
                    Files.createDirectories(target);
                } else {
                    Files.write(target, Files.readAllBytes(path));
                }
            }
        }
    }

    private static void drop(Path folder) throws IOException {
        Files.walkFileTree(folder, new SimpleFileVisitor<Path>() {
            @Override
            public FileVisitResult visitFile(Path file, BasicFileAttributes attributes) throws IOException {
                Files.delete(file);
                return FileVisitResult.CONTINUE;
            }

            @Override
            public FileVisitResult postVisitDirectory(Path directory, IOException e) throws IOException {
                Files.delete(directory);
                return FileVisitResult.CONTINUE;
            }
        });
    }

    // ---- names

    private static void names(String readme) throws IOException {
        for (Method method : LentAir.class.getDeclaredMethods()) {
            if (Modifier.isPublic(method.getModifiers())) {
                int n = method.getParameterCount();
                String numbers = n == 0 ? "" : "\\w+" + ", \\w+".repeat(n - 1);
                Pattern told = Pattern.compile("`" + method.getName() + "\\(" + numbers + "\\)`");
                holds("README.md tells of " + method, told.matcher(readme).find());
            }
        }
        try (Stream<Path> files = Files.list(ROOT.resolve("src/test/java"))) {
            for (Path file : (Iterable<Path>) files::iterator) {
                String name = file.getFileName().toString().replace(".java", "");
                holds("README.md tells of " + name, !name.endsWith("Test") || readme.contains("`" + name + "`"));
            }
        }
        try (Stream<Path> files = Files.list(ROOT.resolve("src/test/java"))) {
            List<String> names = files.map(file -> file.getFileName().toString().replace(".java", "")).toList();
            Matcher m = Pattern.compile("`(\\w+Test)`").matcher(readme);
            while (m.find()) {
                holds("there is " + m.group(1), names.contains(m.group(1)));
            }
        }
    }

    private static void holds(String what, boolean is) {
        if (!is) {
            wrong++;
            System.out.println("it does not hold that " + what);
        }
    }
}
