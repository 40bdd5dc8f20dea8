import java.io.File;
import java.io.IOException;
import java.nio.file.Files;
import java.nio.file.Path;
import java.util.ArrayList;
import java.util.List;
import java.util.concurrent.ExecutorService;
import java.util.concurrent.Executors;
import java.util.concurrent.Future;
import java.util.concurrent.TimeUnit;
import java.util.regex.Matcher;
import java.util.regex.Pattern;
import javax.tools.JavaCompiler;
import javax.tools.ToolProvider;

/**
 * Breaks the program in one place at a time and tells which breaks the tests do not see. By hand, from the
 * project's folder: java src/test/tools/Mutants.java FROM_LINE TO_LINE TEST... (a line takes some seconds).
 */
public final class Mutants {
    private static final Path PROGRAM = Path.of("src/main/java/LetterHeaps.java");
    private static final String[][] SIGNS = {{" < ", " <= "}, {" <= ", " < "}, {" > ", " >= "}, {" >= ", " > "}, {" == ", " != "}, {" != ", " == "},
        {" && ", " || "}, {" || ", " && "}, {" + ", " - "}, {" - ", " + "}, {"++", "--"}, {" | ", " & "}, {" & ", " | "}, {" << ", " >>> "},
        {" >>> ", " << "}, {" |= ", " = "}, {" += ", " = "}, {"return true", "return false"}, {"return false", "return true"},
        {"NONE", "REFUSED"}, {"REFUSED", "NONE"}, {"(!", "("}, {" !", " "}};
    private static final Pattern NUMBER = Pattern.compile("(?<![\\w.])\\d+(?!\\w)");
    private static final Pattern STATEMENT = Pattern.compile("^ +(?!return|int |long |boolean |static |final |private |public |break|continue|import)\\w[^{}]*;$");

    /** What a call of the face might change beside what it answers. */
    private static final String[] SIDE_EFFECTS = {"tape.size = 0;", "tape.size = Math.max(tape.size, tape.taken);", "drawn ^= 1;",
        "law.clauses = 0; law.age++;", "words.setSpoken(NONE);", "if (words.size > 0) { words.setKnown(0, 0); }",
        "if (words.size > 0) { words.barred[0] ^= true; words.findUsed(); }"};
    private static final Pattern RETURN = Pattern.compile("^( +)return (.*);$");
    private static final Pattern USED = Pattern.compile("words\\.isUsed\\(([^()]*)\\)");

    private record Mutant(int line, String before, String after) { }

    private final JavaCompiler compiler = ToolProvider.getSystemJavaCompiler();
    private final List<String> lines;
    private final List<String> tests;
    private final Path work;

    private Mutants(List<String> testNames) throws IOException {
        lines = Files.readAllLines(PROGRAM);
        tests = testNames;
        work = Files.createTempDirectory("mutants");
    }

    public static void main(String[] args) throws Exception {
        Mutants mutants = new Mutants(List.of(args).subList(2, args.length));
        mutants.compileTests();
        mutants.run(Integer.parseInt(args[0]), Integer.parseInt(args[1]));
    }

    private void compileTests() throws IOException {
        List<String> call = new ArrayList<>(List.of("-d", work.resolve("tests").toString(), PROGRAM.toString()));
        Files.createDirectories(work.resolve("tests"));
        for (File file : new File("src/test/java").listFiles()) {
            call.add(file.getPath());
        }
        compiler.run(null, null, null, call.toArray(new String[0]));
    }

    private void run(int from, int to) throws Exception {
        ExecutorService pool = Executors.newFixedThreadPool(Runtime.getRuntime().availableProcessors());
        List<Future<String>> told = new ArrayList<>();
        for (int line = Math.max(1, from); line <= Math.min(to, lines.size()); line++) {
            for (Mutant mutant : mutantsOf(line)) {
                int number = told.size();
                told.add(pool.submit(() -> outcome(mutant, number)));
            }
        }
        int unseen = 0;
        for (Future<String> one : told) {
            unseen += one.get().isEmpty() ? 0 : 1;
            System.out.print(one.get());
        }
        pool.shutdown();
        delete(work.toFile());
        System.out.println(told.size() + " breaks, " + unseen + " not seen");
    }

    private List<Mutant> mutantsOf(int line) {
        List<Mutant> all = new ArrayList<>();
        String text = lines.get(line - 1);
        if (text.trim().startsWith("*") || text.trim().startsWith("/*")) {
            return all;
        }
        for (String[] sign : SIGNS) {
            for (int at = text.indexOf(sign[0]); at >= 0; at = text.indexOf(sign[0], at + 1)) {
                all.add(new Mutant(line, text, text.substring(0, at) + sign[1] + text.substring(at + sign[0].length())));
            }
        }
        Matcher number = NUMBER.matcher(text);
        while (number.find()) {
            for (int by = -1; by <= 1; by += 2) {
                int other = Integer.parseInt(number.group()) + by;
                all.add(new Mutant(line, text, text.substring(0, number.start()) + other + text.substring(number.end())));
            }
        }
        if (STATEMENT.matcher(text).matches()) {
            all.add(new Mutant(line, text, ";"));
        }
        addSideEffects(all, line, text);
        addOtherUsed(all, line, text);
        return all;
    }

    private void addSideEffects(List<Mutant> all, int line, String text) {
        Matcher end = RETURN.matcher(text);
        if (line < lines.indexOf("    private int countOfWord(int what) {") && end.matches()) {
            boolean isTruth = end.group(2).equals("true") || end.group(2).equals("false");
            String answer = isTruth || end.group(2).contains("setBarred") ? "boolean" : end.group(2).equals("NONE") ? "int" : "var";
            for (String effect : SIDE_EFFECTS) {
                all.add(new Mutant(line, text, answer + " got = " + end.group(2) + "; if (true) { " + effect + " return got; }"));
            }
        }
    }

    private static void addOtherUsed(List<Mutant> all, int line, String text) {
        Matcher used = USED.matcher(text);
        while (used.find()) {
            String w = used.group(1);
            for (String other : new String[] {"words.has(W)", "(words.has(W) && !words.barred[W])",
                "(words.has(W) && (words.spoken == NONE || (words.tongues[W] >> words.spoken & 1) != 0))"}) {
                all.add(new Mutant(line, text, text.substring(0, used.start()) + other.replace("W", w) + text.substring(used.end())));
            }
        }
    }

    private static void delete(File file) {
        File[] inside = file.listFiles();
        for (int i = 0; inside != null && i < inside.length; i++) {
            delete(inside[i]);
        }
        file.delete();
    }

    /** Empty: it is seen, or it does not compile. */
    private String outcome(Mutant mutant, int number) throws IOException, InterruptedException {
        Path folder = Files.createDirectories(work.resolve("m" + number));
        List<String> broken = new ArrayList<>(lines);
        broken.set(mutant.line() - 1, mutant.after());
        Path file = Files.write(folder.resolve("LetterHeaps.java"), broken);
        File nowhere = folder.resolve("told").toFile();
        try (java.io.OutputStream none = Files.newOutputStream(nowhere.toPath())) {
            if (compiler.run(null, none, none, "-d", folder.toString(), file.toString()) != 0) {
                return "";
            }
        }
        for (String test : tests) {
            Process run = new ProcessBuilder("java", "-cp", folder + File.pathSeparator + work.resolve("tests"), test)
                .redirectErrorStream(true).redirectOutput(nowhere).start();
            boolean ended = run.waitFor(30, TimeUnit.SECONDS);
            run.destroyForcibly();
            if (!ended || run.exitValue() != 0) {
                return "";
            }
        }
        return mutant.line() + ": " + mutant.before().trim() + "\n    as " + mutant.after().trim() + "\n";
    }
}
