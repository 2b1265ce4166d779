import java.io.IOException;
import java.nio.file.Files;
import java.nio.file.Path;
import java.util.ArrayList;
import java.util.Comparator;
import java.util.List;
import java.util.regex.Matcher;
import java.util.regex.Pattern;
import java.util.stream.Stream;

/** README.md tells the document's words, and what it says to type works as it stands. */
public final class ReadmeTest {
    private static final Path README = Path.of("README.md");
    private static final Path EXAMPLE = Path.of("src/example/java/Example.java");
    private static final Path TESTS = Path.of("src/test/java");
    private static final Path SHARED = Path.of("../shared");
    private static final String ALL_TESTS = ".ci/run";
    private static final Checks CHECKS = new Checks("ReadmeTest");

    private record Block(String language, String text) {
    }

    private ReadmeTest() {
    }

    public static void main(String[] args) throws IOException, InterruptedException {
        String readme = Files.readString(README);
        List<Block> blocks = blocksOf(readme);
        wordsOfTheDocument(readme);
        everyTestIsTold(readme);
        theExampleIsTheFile(blocks);
        allTestsCanBeTyped(blocks);
        whatIsTypedWorks(blocks);
        CHECKS.end();
    }

    private static List<Block> blocksOf(String readme) {
        List<Block> blocks = new ArrayList<>();
        Matcher matcher = Pattern.compile("(?ms)^```(\\w+)\n(.*?)^```$").matcher(readme);
        while (matcher.find()) {
            blocks.add(new Block(matcher.group(1), matcher.group(2)));
        }
        return blocks;
    }

    private static void wordsOfTheDocument(String readme) throws IOException {
        CHECKS.about("README.md tells what each method takes and answers in the document's words");
        Path document = SHARED.resolve("DOC.md");
        if (!Files.exists(document)) {
            System.out.println("ReadmeTest: there is no " + document + " to compare README.md with");
            return;
        }
        String told = inOneLine(readme);
        String text = Files.readString(document);
        String promised = text.substring(text.indexOf("## Terms"), text.indexOf("## Not promised"));
        for (String paragraph : promised.split("\n\n")) {
            if (!paragraph.startsWith("#")) {
                CHECKS.due("README.md has: " + paragraph, told.contains(inOneLine(paragraph)), true);
            }
        }
    }

    private static String inOneLine(String text) {
        return text.strip().replaceAll("\\s+", " ");
    }

    private static void everyTestIsTold(String readme) throws IOException {
        CHECKS.about("README.md names every test of the project");
        try (Stream<Path> files = Files.list(TESTS)) {
            for (Path file : files.toList()) {
                String name = file.getFileName().toString().replace(".java", "");
                CHECKS.due(name, !name.endsWith("Test") || readme.contains("| `" + name + "` |"), true);
            }
        }
    }

    private static void theExampleIsTheFile(List<Block> blocks) throws IOException {
        CHECKS.about("the example of README.md is " + EXAMPLE);
        CHECKS.due("the same text", blocks.contains(new Block("java", Files.readString(EXAMPLE))), true);
    }

    private static void allTestsCanBeTyped(List<Block> blocks) {
        CHECKS.about("README.md says how to run the tests");
        CHECKS.due(ALL_TESTS, blocks.contains(new Block("sh", ALL_TESTS + "\n")), true);
        CHECKS.due(ALL_TESTS + " can be run", Files.isExecutable(Path.of(ALL_TESTS)), true);
    }

    private static void whatIsTypedWorks(List<Block> blocks) throws IOException, InterruptedException {
        CHECKS.about("what README.md says to type works as it stands");
        Path room = Files.createTempDirectory("readme");
        Path project = copyOfProject(room);
        for (int i = 0; i < blocks.size(); i++) {
            // The run of all tests is what runs this one.
            if (blocks.get(i).language.equals("sh") && !blocks.get(i).text.contains(ALL_TESTS)) {
                boolean tellsOutput = i + 1 < blocks.size() && blocks.get(i + 1).language.equals("text");
                type(project, blocks.get(i).text, tellsOutput ? blocks.get(i + 1).text : null);
            }
        }
        remove(room);
    }

    /** What is typed leaves files behind, which do not belong in the project. */
    private static Path copyOfProject(Path room) throws IOException {
        Path project = Files.createDirectory(room.resolve("main"));
        Files.createSymbolicLink(room.resolve("shared"), SHARED.toRealPath());
        try (Stream<Path> files = Files.walk(Path.of("src"))) {
            for (Path file : files.toList()) {
                Files.copy(file, project.resolve(file));
            }
        }
        return project;
    }

    private static void type(Path folder, String commands, String wanted)
            throws IOException, InterruptedException {
        Process process = new ProcessBuilder("sh", "-e", "-c", commands)
                .directory(folder.toFile()).redirectErrorStream(true).start();
        String output = new String(process.getInputStream().readAllBytes());
        int code = process.waitFor();
        CHECKS.due("the exit code of: " + commands + output, code, 0);
        if (wanted != null) {
            CHECKS.due("README.md tells what is printed: " + output, output.equals(wanted), true);
        }
    }

    private static void remove(Path room) throws IOException {
        try (Stream<Path> files = Files.walk(room)) {
            for (Path file : files.sorted(Comparator.reverseOrder()).toList()) {
                Files.delete(file);
            }
        }
    }
}
