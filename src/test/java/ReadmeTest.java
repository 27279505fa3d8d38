import java.io.IOException;
import java.nio.file.Files;
import java.nio.file.Path;
import java.util.ArrayList;
import java.util.Arrays;
import java.util.List;
import java.util.TreeSet;
import java.util.regex.Matcher;
import java.util.regex.Pattern;
import java.util.stream.Collectors;
import java.util.stream.Stream;

/**
 * README.md against what it tells of. Arguments: the project's directory, the script that runs the tests, and where to
 * put what that script runs next: ReadmeExample.java (the examples, each answer that the page tells held against what
 * is answered) and one.sh (the commands for one test alone).
 */
public final class ReadmeTest {
    private static final Pattern ANSWERED = Pattern.compile("(.*);\\s*// (-?[0-9]+|true|false): \\S.*");
    private static final Pattern QUOTED = Pattern.compile("`([A-Za-z]+)`");
    private static final Pattern PROMISED = Pattern.compile("`(?:int|long|boolean) (\\w+)\\(.*?\\)`: (.*)");

    private static int wrong;

    /** A fenced block: the word behind the fence, its lines, and the number of its first line. */
    private record Block(String language, List<String> lines, int from) {
    }

    public static void main(String[] args) throws IOException {
        Path root = Path.of(args[0]);
        String page = Files.readString(root.resolve("README.md"));
        List<Block> blocks = blocksOf(page.lines().toList());
        Files.writeString(Path.of(args[2], "ReadmeExample.java"), example(blocks));
        examplesShowAllKinds(blocks);
        List<Block> shell = blocks.stream().filter(b -> b.language.equals("sh")).toList();
        check(shell.size() == 2, "commands: all tests, one test");
        commandIs(shell.get(0).lines, root, Path.of(args[1]));
        Files.write(Path.of(args[2], "one.sh"), shell.get(1).lines);
        testsAreNamed(page, root, Files.readString(Path.of(args[1])));
        refusalsAre(page, Files.readAllLines(root.resolve("../shared/DOC.md")));
        System.out.println("ReadmeTest: " + wrong + " wrong");
        if (wrong != 0) {
            System.exit(1);
        }
    }

    private static void check(boolean fine, String what) {
        if (!fine) {
            wrong++;
            System.out.println("README.md: " + what);
        }
    }

    private static List<Block> blocksOf(List<String> lines) {
        List<Block> blocks = new ArrayList<>();
        Block open = null;
        for (int k = 0; k < lines.size(); k++) {
            String line = lines.get(k);
            if (!line.startsWith("```")) {
                if (open != null) {
                    open.lines.add(line);
                }
            } else if (open == null) {
                open = new Block(line.substring(3), new ArrayList<>(), k + 2);
            } else {
                blocks.add(open);
                open = null;
            }
        }
        check(open == null, "a block has no end");
        return blocks;
    }

    /** All examples are one program: functions are its members, all other blocks follow one another. */
    private static String example(List<Block> blocks) {
        StringBuilder members = new StringBuilder();
        StringBuilder steps = new StringBuilder();
        for (Block b : blocks) {
            if (b.language.equals("java") && b.lines.get(0).startsWith("static ")) {
                members.append(String.join("\n", b.lines)).append('\n');
            } else if (b.language.equals("java")) {
                for (int k = 0; k < b.lines.size(); k++) {
                    steps.append(step(b.lines.get(k), b.from + k)).append('\n');
                }
            }
        }
        return """
            public final class ReadmeExample {
                private static int wrong;

                private static void due(String call, Object got, String want) {
                    if (!got.toString().equals(want)) {
                        wrong++;
                        System.out.println("README.md, " + call + " answered " + got + ", due is " + want);
                    }
                }

            """ + members + """

                public static void main(String[] args) {
            """ + steps + """
                    System.out.println("ReadmeExample: " + wrong + " wrong");
                    if (wrong != 0) {
                        System.exit(1);
                    }
                }
            }
            """;
    }

    private static String step(String line, int number) {
        Matcher m = ANSWERED.matcher(line);
        if (!m.matches()) {
            check(line.isEmpty() || line.equals("HueRash x = new HueRash();"), "no answer told in line " + number);
            return line;
        }
        String call = m.group(1).replace("\\", "\\\\").replace("\"", "\\\"");
        return "due(\"line " + number + ": " + call + "\", " + m.group(1) + ", \"" + m.group(2) + "\");";
    }

    private static void examplesShowAllKinds(List<Block> blocks) {
        String all = blocks.stream().filter(b -> b.language.equals("java")).flatMap(b -> b.lines.stream())
            .collect(Collectors.joining("\n"));
        String[] kinds = {"x.feed(", "x.end(", "x.text(", "x.fault(", "x.image(", "x.again(", "x.count(", "// true:",
            "// -1:", "// -2:", "// -1000:", "// false:"};
        for (String kind : kinds) {
            check(all.contains(kind), "no example has " + kind);
        }
        for (int sort = 0; sort < 5; sort++) {
            check(all.contains("tell(x, " + sort + ", "), "no example tells a text of sort " + sort);
        }
    }

    private static void commandIs(List<String> lines, Path root, Path running) throws IOException {
        check(lines.size() == 1, "all tests are run by one command");
        Path named = root.resolve(lines.get(0));
        check(Files.isExecutable(named), lines.get(0) + " can't be run");
        check(Files.isExecutable(named) && Files.isSameFile(named, running), lines.get(0) + " is not what runs now");
    }

    /** Each test is named on the page, and run by the script; nothing else is said to be one. */
    private static void testsAreNamed(String page, Path root, String script) throws IOException {
        String told = page.substring(page.indexOf("\n## Tests\n"));
        TreeSet<String> files = new TreeSet<>();
        try (Stream<Path> paths = Files.list(root.resolve("src/test/java"))) {
            for (Path path : paths.toList()) {
                String name = path.getFileName().toString().replace(".java", "");
                files.add(name);
                boolean runs = Files.readString(path).contains("public static void main(");
                check(!runs || script.contains("run_own " + name), name + " is not run");
            }
        }
        TreeSet<String> named = quoted(told);
        named.removeAll(Arrays.asList("javac", "java", "main", "shared"));
        check(named.equals(files), "tests told of: " + named + ", those that there are: " + files);
    }

    private static TreeSet<String> quoted(String text) {
        TreeSet<String> words = new TreeSet<>();
        Matcher m = QUOTED.matcher(text);
        while (m.find()) {
            words.add(m.group(1));
        }
        return words;
    }

    /** Which call answers what, if there is nothing to answer: as the document's promises have it. */
    private static void refusalsAre(String page, List<String> document) {
        TreeSet<String> others = promising("", document);
        check(others.size() == 32, "promises of calls: " + others.size());
        for (String refusal : new String[] {"-2", "-1000", "false"}) {
            List<String> told = page.lines().filter(l -> l.replace("`", "").startsWith("- " + refusal + " from ")).toList();
            TreeSet<String> named = quoted(String.join(" ", told));
            named.remove("false");
            TreeSet<String> promised = promising(refusal, document);
            check(named.equals(promised), refusal + " from " + named + ", the document has " + promised);
            others.removeAll(promised);
        }
        others.removeAll(promising("NONE", document));
        check(others.isEmpty(), "no NONE from " + others);
    }

    /** The calls whose promises have that answer. */
    private static TreeSet<String> promising(String answer, List<String> document) {
        TreeSet<String> calls = new TreeSet<>();
        for (String line : document) {
            Matcher m = PROMISED.matcher(line);
            if (m.matches() && (answer.isEmpty() || m.group(2).matches(".*[ :.(]" + answer + "\\b.*"))) {
                calls.add(m.group(1));
            }
        }
        return calls;
    }
}
