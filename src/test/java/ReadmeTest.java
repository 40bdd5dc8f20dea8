import java.io.File;
import java.io.IOException;
import java.nio.file.FileVisitOption;
import java.nio.file.Files;
import java.nio.file.Path;
import java.util.ArrayList;
import java.util.Comparator;
import java.util.List;
import java.util.Set;
import java.util.TreeSet;
import java.util.concurrent.TimeUnit;
import java.util.regex.Matcher;
import java.util.regex.Pattern;
import java.util.stream.Stream;

/**
 * README.md as it stands: each of its commands is given, in a copy of the project, its example must print what it
 * is said to print, and it must name each test that there is and no other one.
 */
public final class ReadmeTest {
    private static final String WHOLE_CI = "bash .ci/run";
    private static final int MOST_SECONDS = 300;

    private final String page = Files.readString(Path.of("README.md"));
    private final Path copy;

    private ReadmeTest(Path folder) throws IOException {
        copy = folder;
    }

    public static void main(String[] args) throws Exception {
        Path folder = Files.createTempDirectory("readme");
        try {
            ReadmeTest test = new ReadmeTest(folder.resolve("main"));
            test.namesEachTest();
            test.copyProject();
            test.example();
            test.commands();
        } finally {
            delete(folder);
        }
        Desk.end();
    }

    private List<String> blocks(String kind) {
        List<String> found = new ArrayList<>();
        Matcher block = Pattern.compile("(?s)\n```" + kind + "\n(.*?)```\n").matcher(page);
        while (block.find()) {
            found.add(block.group(1));
        }
        return found;
    }

    private void namesEachTest() {
        Desk.sentence("README.md names each test and no other one");
        Set<String> named = new TreeSet<>();
        Matcher name = Pattern.compile("`(\\w+Test)`").matcher(page);
        while (name.find()) {
            named.add(name.group(1));
        }
        Set<String> there = new TreeSet<>();
        for (String file : new File("src/test/java").list()) {
            if (file.endsWith("Test.java")) {
                there.add(file.replace(".java", ""));
            } else {
                Desk.due("it names " + file, true, page.contains("`" + file.replace(".java", "") + "`"));
            }
        }
        Desk.due("the tests", there.toString(), named.toString());
        Desk.sentence("README.md names files that are there");
        Matcher file = Pattern.compile("`((?:\\.\\./shared|src|\\.ci)/[\\w./]+)`").matcher(page);
        int files = 0;
        while (file.find()) {
            files++;
            Desk.due(file.group(1), true, Files.exists(Path.of(file.group(1))));
        }
        Desk.due("some are named", true, files > 4);
    }

    private void copyProject() throws IOException {
        copyAll(Path.of("src"), copy.resolve("src"));
        copyAll(Path.of("../shared"), copy.resolve("../shared").normalize());
    }

    /** A folder may stand elsewhere, with a link in its place. */
    private static void copyAll(Path from, Path to) throws IOException {
        try (Stream<Path> all = Files.walk(from, FileVisitOption.FOLLOW_LINKS)) {
            for (Path one : (Iterable<Path>) all::iterator) {
                Path there = to.resolve(from.relativize(one).toString());
                if (Files.isDirectory(one)) {
                    Files.createDirectories(there);
                } else {
                    Files.write(there, Files.readAllBytes(one));
                }
            }
        }
    }

    private void example() throws IOException, InterruptedException {
        Desk.sentence("README.md's example gives the answers that it names");
        Desk.due("examples", 1, blocks("java").size());
        Desk.due("what they print", 1, blocks("text").size());
        Files.writeString(copy.resolve("Example.java"), blocks("java").get(0));
        StringBuilder printed = new StringBuilder();
        for (String command : blocks("sh").get(0).split("\n")) {
            printed.append(run(command));
        }
        Desk.due("it prints", blocks("text").get(0), printed.toString());
    }

    /** The project's own CI would call this test once more, so it is looked for alone. */
    private void commands() throws IOException, InterruptedException {
        Desk.sentence("README.md's commands can be given as they stand");
        int given = 0;
        boolean isCiTold = false;
        for (String block : blocks("sh")) {
            for (String command : block.split("\n")) {
                isCiTold |= command.equals(WHOLE_CI);
                if (!command.equals(WHOLE_CI)) {
                    run(command);
                    given++;
                }
            }
        }
        Desk.due("the one that runs all tests is told", true, isCiTold && Files.isExecutable(Path.of(".ci/run")));
        Desk.due("commands", 7, given);
    }

    /** What a command prints; it must end well. */
    private String run(String command) throws IOException, InterruptedException {
        Path told = copy.resolve("told.txt");
        Process process = new ProcessBuilder("bash", "-c", command).directory(copy.toFile())
            .redirectErrorStream(true).redirectOutput(told.toFile()).start();
        boolean isEnded = process.waitFor(MOST_SECONDS, TimeUnit.SECONDS);
        process.destroyForcibly();
        String text = Files.readString(told);
        boolean isWell = isEnded && process.exitValue() == 0;
        Desk.due(command + (isWell ? "" : " told " + text), true, isWell);
        return text;
    }

    private static void delete(Path folder) throws IOException {
        try (Stream<Path> all = Files.walk(folder)) {
            for (Path one : (Iterable<Path>) all.sorted(Comparator.reverseOrder())::iterator) {
                Files.delete(one);
            }
        }
    }
}
