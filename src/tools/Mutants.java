import java.io.IOException;
import java.io.OutputStream;
import java.nio.file.Files;
import java.nio.file.Path;
import java.util.ArrayList;
import java.util.Comparator;
import java.util.LinkedHashSet;
import java.util.List;
import java.util.Set;
import java.util.concurrent.ExecutorService;
import java.util.concurrent.Executors;
import java.util.concurrent.Future;
import java.util.concurrent.TimeUnit;
import java.util.regex.Matcher;
import java.util.regex.Pattern;
import javax.tools.ToolProvider;

/**
 * Tells how well the tests hold: makes one small change of PeatRailway.java after another (a number
 * one off, another comparison, a statement left out, ..) and names those that no test notices.
 *
 * <p>java src/tools/Mutants.java Test.. runs the named tests of src/test/java against each change.
 * It is no part of .ci/run: it takes minutes.
 */
public final class Mutants {
    private static final Path SOURCE = Path.of("src/main/java/PeatRailway.java");
    private static final int SECONDS = 120;
    private static final String RUN_ALL = """
            public final class RunAll {
                public static void main(String[] tests) throws Exception {
                    for (String test : tests) {
                        Class.forName(test).getMethod("main", String[].class)
                                .invoke(null, (Object) new String[0]);
                    }
                }
            }
            """;
    private static final String[][] SWAPS = {
        {" < ", " <= "}, {" <= ", " < "}, {" > ", " >= "}, {" >= ", " > "}, {" < ", " > "},
        {" > ", " < "}, {" == ", " != "}, {" != ", " == "}, {" && ", " || "}, {" \\|\\| ", " && "},
        {" \\+ ", " - "}, {" - ", " + "}, {" \\* ", " + "}, {" / ", " * "}, {"\\+\\+", "--"},
        {"--", "++"}, {" \\+= ", " -= "}, {" -= ", " += "}, {"\\bBAD\\b", "STATE"},
        {"\\bSTATE\\b", "FULL"}, {"\\bFULL\\b", "BAD"}, {"\\bNONE\\b", "BAD"},
        {"\\bmin\\(", "max("}, {"\\bmax\\(", "min("}, {"\\btrue\\b", "false"},
        {"\\bfalse\\b", "true"}, {"return NO_REASON;", "return SUNK;"}
    };

    private record Mutant(int line, String text, String before) { }

    public static void main(String[] tests) throws Exception {
        Path work = Files.createTempDirectory("mutants");
        Path own = Files.createDirectory(work.resolve("own"));
        Path runAll = Files.writeString(work.resolve("RunAll.java"), RUN_ALL);
        List<String> sources = new ArrayList<>(List.of(SOURCE.toString(), runAll.toString()));
        try (var all = Files.list(Path.of("src/test/java"))) {
            all.forEach(file -> sources.add(file.toString()));
        }
        if (!compiles(own, sources)) {
            throw new IllegalStateException("the tests do not compile");
        }
        tellSurvivors(work, own, mutants(Files.readAllLines(SOURCE)), tests);
        try (var files = Files.walk(work)) {
            files.sorted(Comparator.reverseOrder()).forEach(file -> file.toFile().delete());
        }
    }

    private static void tellSurvivors(Path work, Path own, List<Mutant> mutants, String[] tests)
            throws Exception {
        ExecutorService pool = Executors.newFixedThreadPool(
                Runtime.getRuntime().availableProcessors());
        List<Future<String>> ends = new ArrayList<>();
        for (int i = 0; i < mutants.size(); i++) {
            Path place = work.resolve("m" + i);
            Mutant mutant = mutants.get(i);
            ends.add(pool.submit(() -> end(place, own, mutant, tests)));
        }
        int survived = 0;
        int compiled = 0;
        for (int i = 0; i < ends.size(); i++) {
            String end = ends.get(i).get();
            compiled += end.equals("no program") ? 0 : 1;
            if (end.equals("survived")) {
                survived++;
                System.out.println(mutants.get(i).line + ": " + mutants.get(i).before.trim()
                        + "\n      -> " + mutants.get(i).text.trim());
            }
        }
        pool.shutdown();
        System.out.println(compiled + " changes that compile, " + survived + " not noticed");
    }

    /** A change that runs on for long is noticed, too: its tests do not end. */
    private static String end(Path place, Path own, Mutant mutant, String[] tests)
            throws IOException, InterruptedException {
        Files.createDirectory(place);
        List<String> lines = new ArrayList<>(Files.readAllLines(SOURCE));
        lines.set(mutant.line - 1, mutant.text);
        Path source = Files.write(place.resolve("PeatRailway.java"), lines);
        if (!compiles(place, List.of(source.toString()))) {
            return "no program";
        }
        List<String> command = new ArrayList<>(List.of("java", "-XX:TieredStopAtLevel=1", "-cp",
                place + ":" + own, "RunAll"));
        command.addAll(List.of(tests));
        Process process = new ProcessBuilder(command).redirectErrorStream(true)
                .redirectOutput(place.resolve("log").toFile()).start();
        boolean ended = process.waitFor(SECONDS, TimeUnit.SECONDS);
        process.destroyForcibly();
        return ended && process.waitFor() == 0 ? "survived" : "noticed";
    }

    private static boolean compiles(Path out, List<String> files) {
        List<String> arguments = new ArrayList<>(List.of("-d", out.toString()));
        arguments.addAll(files);
        return ToolProvider.getSystemJavaCompiler().run(null, OutputStream.nullOutputStream(),
                OutputStream.nullOutputStream(), arguments.toArray(new String[0])) == 0;
    }

    private static List<Mutant> mutants(List<String> lines) {
        List<Mutant> all = new ArrayList<>();
        boolean comment = false;
        for (int i = 0; i < lines.size(); i++) {
            String line = lines.get(i);
            comment |= line.trim().startsWith("/*");
            if (!comment && !line.trim().startsWith("//")) {
                for (String text : changes(line)) {
                    all.add(new Mutant(i + 1, text, line));
                }
            }
            comment &= !line.contains("*/");
        }
        return all;
    }

    private static Set<String> changes(String line) {
        Set<String> texts = new LinkedHashSet<>();
        for (String[] swap : SWAPS) {
            Matcher place = Pattern.compile(swap[0]).matcher(line);
            while (place.find()) {
                texts.add(changed(line, place.start(), place.end(), swap[1]));
            }
        }
        Matcher number = Pattern.compile("(?<![\\w.])\\d+(?![\\w.])").matcher(line);
        while (number.find()) {
            for (int more = -1; more <= 1; more += 2) {
                long other = Long.parseLong(number.group()) + more;
                texts.add(changed(line, number.start(), number.end(), String.valueOf(other)));
            }
        }
        Matcher condition = Pattern.compile("if \\((.*)\\) \\{$").matcher(line);
        if (condition.find()) {
            texts.add(changed(line, condition.start(1), condition.end(1),
                    "!(" + condition.group(1) + ")"));
        }
        if (line.matches(" {8,}[^{}]*;")
                && !line.matches(" *(return|case|default|int|long|for).*")) {
            texts.add("");
        }
        texts.remove(line);
        return texts;
    }

    private static String changed(String line, int begin, int end, String text) {
        return line.substring(0, begin) + text + line.substring(end);
    }
}
