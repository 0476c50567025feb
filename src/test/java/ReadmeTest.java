import java.nio.file.DirectoryStream;
import java.nio.file.Files;
import java.nio.file.Path;
import java.util.ArrayList;
import java.util.List;
import java.util.regex.Matcher;
import java.util.regex.Pattern;

/** README.md says how to use the class and how to run its tests, as both stand. */
public final class ReadmeTest {
    private static final Pattern MAKE = Pattern.compile("SpiderLoom x = new SpiderLoom\\(\\);");
    private static final Pattern TYPE =
        Pattern.compile("for \\(char c : \"([^\"]*)\"\\.toCharArray\\(\\)\\) x\\.type\\(c\\);");
    private static final Pattern ASK = Pattern.compile("x\\.(\\w+)(\\([-0-9, ]*\\)); *// (-?\\d+)(:.*)?");

    public static void main(String[] args) throws Exception {
        Path root = Path.of(args.length > 2 ? args[2] : ".");
        String page = Files.readString(root.resolve("README.md"));
        List<String> told = examples(page);
        for (String call : Face.CALLS) {
            String name = Face.name(call);
            Check.holds(Face.promise(name) + ", README.md has an example of " + name + "()", told.contains(name));
            Check.holds(Face.promise(name) + ", README.md tells what " + name + "() answers",
                Pattern.compile("(?m)^\\|.*`" + name + "\\(.*\\|.*\\|$").matcher(page).find());
        }
        try (DirectoryStream<Path> tests = Files.newDirectoryStream(root.resolve("src/test/java"), "*Test.java")) {
            for (Path test : tests) {
                String name = test.getFileName().toString().replace(".java", "");
                Check.holds("README.md tells of " + name, page.contains("`" + name + "`"));
            }
        }
        Check.end("ReadmeTest");
    }

    /** Runs the examples, each of which makes an object of its own; answers the names of the calls. */
    private static List<String> examples(String page) {
        List<String> told = new ArrayList<>();
        Matcher blocks = Pattern.compile("(?s)```java\n(.*?)```").matcher(page);
        while (blocks.find()) {
            Run run = null;
            for (String line : blocks.group(1).split("\n")) {
                run = line(line, run, told);
            }
        }
        return told;
    }

    /** A line of an example that is none of these would be asked by nobody, so it is not as due. */
    private static Run line(String line, Run run, List<String> told) {
        Matcher type = TYPE.matcher(line);
        Matcher ask = ASK.matcher(line);
        if (MAKE.matcher(line).matches()) {
            return new Run("README.md: ");
        }
        if (run != null && type.matches()) {
            return run.type(type.group(1));
        }
        if (run != null && ask.matches()) {
            told.add(ask.group(1));
            String call = ask.group(1) + ask.group(2);
            Check.due(Face.promise(ask.group(1)) + ", README.md: " + call, run.ask(call), Long.parseLong(ask.group(3)));
            return run;
        }
        Check.holds("README.md, a line that can be run: " + line, false);
        return run;
    }
}
