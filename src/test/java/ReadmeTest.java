import java.io.IOException;
import java.nio.file.Files;
import java.nio.file.Path;
import java.util.ArrayList;
import java.util.Comparator;
import java.util.List;
import java.util.regex.Matcher;
import java.util.regex.Pattern;
import java.util.stream.Stream;

/**
 * Follows README.md word for word in a copy of the project (told: its folder, then shared): each row of commands is
 * run, and what stands behind one as text is what it prints.
 */
public final class ReadmeTest extends Checks {
    private static final Pattern BLOCK = Pattern.compile("(?ms)^```(\\w+)\\n(.*?)^```$");
    /** It runs this test, so this test can't run it. */
    private static final String ALL_TESTS = "bash .ci/run\n";
    /** This test's own command is left out for the same reason. */
    private static final String THIS_TEST = "java -cp out ReadmeTest . ../shared\n";

    private record Block(String kind, String text) { }

    private static void need(boolean holds, String what) {
        checks++;
        if (!holds) {
            wrong++;
            System.out.println("README.md: " + what);
        }
    }

    private static List<Block> blocks(String readme) {
        List<Block> all = new ArrayList<>();
        Matcher m = BLOCK.matcher(readme);
        while (m.find()) {
            all.add(new Block(m.group(1), m.group(2)));
        }
        return all;
    }

    private static void copy(Path from, Path to) throws IOException {
        try (Stream<Path> all = Files.walk(from)) {
            for (Path p : (Iterable<Path>) all::iterator) {
                Path its = to.resolve(from.relativize(p).toString());
                if (Files.isDirectory(p)) {
                    Files.createDirectories(its);
                } else {
                    Files.copy(p, its);
                }
            }
        }
    }

    private static void clear(Path folder) throws IOException {
        try (Stream<Path> all = Files.walk(folder)) {
            for (Path p : all.sorted(Comparator.reverseOrder()).toList()) {
                Files.delete(p);
            }
        }
    }

    /** What it printed, or null if it failed. */
    private static String run(Path folder, String commands) throws IOException, InterruptedException {
        Path printed = folder.resolveSibling("printed");
        Process p = new ProcessBuilder("bash", "-e", "-c", commands).directory(folder.toFile())
            .redirectErrorStream(true).redirectOutput(printed.toFile()).start();
        int code = p.waitFor();
        String text = Files.readString(printed);
        if (code != 0) {
            System.out.println(text);
        }
        return code == 0 ? text : null;
    }

    private static void follow(List<Block> blocks, Path folder) throws IOException, InterruptedException {
        for (int i = 0; i < blocks.size(); i++) {
            Block b = blocks.get(i);
            if (b.kind.equals("sh") && !b.text.equals(ALL_TESTS)) {
                String printed = run(folder, b.text.replace(THIS_TEST, ""));
                need(printed != null, "its commands fail:\n" + b.text);
                if (i + 1 < blocks.size() && blocks.get(i + 1).kind.equals("text")) {
                    need(blocks.get(i + 1).text.equals(printed), "it isn't this that is printed:\n" + printed);
                }
            }
        }
    }

    private static void itsExampleIsTheFile(List<Block> blocks, Path project) throws IOException {
        String file = Files.readString(project.resolve("src/example/java/Example.java"));
        List<String> told = blocks.stream().filter(b -> b.kind.equals("java")).map(Block::text).toList();
        need(told.equals(List.of(file)), "its example isn't src/example/java/Example.java");
    }

    /** Each test of the project can be found by it, runs in .ci/run and can be run alone. */
    private static void eachTestIsTold(String readme, List<Block> blocks, Path project) throws IOException {
        Path script = project.resolve(".ci/run");
        String ci = Files.readString(script);
        need(blocks.contains(new Block("sh", ALL_TESTS)), "it doesn't say " + ALL_TESTS);
        need(Files.isExecutable(script), ".ci/run isn't executable");
        try (Stream<Path> all = Files.list(project.resolve("src/test/java"))) {
            for (Path p : all.sorted().toList()) {
                String name = p.getFileName().toString().replace(".java", "");
                if (Files.readString(p).contains("void main(String[] args)")) {
                    need(readme.contains("- `" + name + "`: "), "it doesn't tell of " + name);
                    need(readme.contains("java -cp out " + name), "it doesn't tell how to run " + name);
                    Pattern run = Pattern.compile("java -cp \\S+ " + name + "\\b.*; tell " + name + " ");
                    need(run.matcher(ci).find(), ".ci/run doesn't run " + name);
                }
            }
        }
        need(readme.contains(THIS_TEST), "it doesn't tell how to run this test");
    }

    public static void main(String[] args) throws Exception {
        Path project = Path.of(args[0]);
        String readme = Files.readString(project.resolve("README.md"));
        List<Block> blocks = blocks(readme);
        need(blocks.stream().filter(b -> b.kind.equals("sh")).count() == 3, "it doesn't have three rows of commands");
        itsExampleIsTheFile(blocks, project);
        eachTestIsTold(readme, blocks, project);
        Path place = Files.createTempDirectory("readme");
        try {
            Path folder = Files.createDirectory(place.resolve("main"));
            copy(project.resolve("src"), folder.resolve("src"));
            Files.createSymbolicLink(place.resolve("shared"), Path.of(args[1]).toRealPath());
            follow(blocks, folder);
        } finally {
            clear(place);
        }
        System.out.println(wrong == 0 ? "README.md leads where it says" : wrong + " wrong in README.md");
        if (wrong != 0) {
            System.exit(1);
        }
    }
}
