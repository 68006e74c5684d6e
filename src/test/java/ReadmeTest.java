import java.io.IOException;
import java.nio.file.Files;
import java.nio.file.Path;
import java.util.ArrayList;
import java.util.List;
import java.util.regex.Matcher;
import java.util.regex.Pattern;

/**
 * README.md: its commands are done as they stand there, and the run that it shows answers as it
 * says; each call and each constant of the face is told.
 */
public final class ReadmeTest {
    private static final Due DUE = new Due("README.md");
    private static final Pattern CALL = Pattern.compile(" *show\\(forge\\.(\\w+)\\(.*\\)\\); +// (true|false|-?\\d+): .+");
    private static final Pattern METHOD = Pattern.compile("    public (\\w+ (\\w+)\\([^)]*\\)) \\{");
    private static final Pattern CONSTANT = Pattern.compile("    public static final int (\\w+ = -\\d+);");

    public static void main(String[] args) throws IOException, InterruptedException {
        String readme = Files.readString(Path.of("README.md"));
        String shown = blockOf(readme, "java");
        List<String> calls = callsOf(shown);
        theRunIsTheFile(shown);
        theRunAnswersAsSaid(blockOf(readme, "sh"), calls);
        theFaceIsTold(readme, calls);
        DUE.end("ReadmeTest");
    }

    private static void theRunIsTheFile(String shown) throws IOException {
        DUE.edge("the run that is shown is the file that the commands compile");
        DUE.same("the run", shown, Files.readString(Path.of("src/test/java/Example.java")));
    }

    private static void theRunAnswersAsSaid(String commands, List<String> calls) throws IOException, InterruptedException {
        DUE.edge("the run, done by the commands as they stand, answers as is said behind each call");
        List<String> printed = linesOf(commands);
        DUE.is("how many answers", printed.size(), calls.size());
        for (int k = 0; k < Math.min(printed.size(), calls.size()); k++) {
            Matcher call = CALL.matcher(calls.get(k));
            DUE.is(calls.get(k) + ": a call and its answer", call.matches(), true);
            DUE.same(calls.get(k), printed.get(k), call.matches() ? call.group(2) : "");
        }
    }

    private static void theFaceIsTold(String readme, List<String> calls) throws IOException {
        DUE.edge("each call and each constant is told, and the run uses each call");
        List<String> used = new ArrayList<>();
        for (String line : calls) {
            Matcher call = CALL.matcher(line);
            used.add(call.matches() ? call.group(1) : "");
        }
        int methods = 0;
        int constants = 0;
        for (String line : Files.readAllLines(Path.of("src/main/java/MapForge.java"))) {
            Matcher method = METHOD.matcher(line);
            if (method.matches()) {
                methods++;
                DUE.is(method.group(1) + " is told", readme.contains("`" + method.group(1) + "`"), true);
                DUE.is(method.group(2) + " is used", used.contains(method.group(2)), true);
            }
            Matcher constant = CONSTANT.matcher(line);
            if (constant.matches()) {
                constants++;
                DUE.is(constant.group(1) + " is told", readme.contains("`" + constant.group(1) + "`"), true);
            }
        }
        DUE.is("how many methods", methods, 15);
        DUE.is("how many constants", constants, 5);
    }

    /** The lines in which the object is called: each of them has to tell what it answers. */
    private static List<String> callsOf(String program) {
        List<String> calls = new ArrayList<>();
        for (String line : program.split("\n")) {
            if (line.contains("forge.")) {
                calls.add(line);
            }
        }
        return calls;
    }

    /** The first block of README.md that is written in this language. */
    private static String blockOf(String readme, String language) {
        String head = "\n```" + language + "\n";
        int from = readme.indexOf(head);
        int to = readme.indexOf("\n```\n", from + head.length());
        DUE.edge("there is a block of " + language);
        DUE.is("begin and end", from >= 0 && to >= 0, true);
        return from >= 0 && to >= 0 ? readme.substring(from + head.length(), to + 1) : "";
    }

    /** What the commands print; they are to end well. */
    private static List<String> linesOf(String commands) throws IOException, InterruptedException {
        Process process = new ProcessBuilder("sh", "-e", "-c", commands)
                .redirectError(ProcessBuilder.Redirect.INHERIT).start();
        String text = new String(process.getInputStream().readAllBytes());
        DUE.is("exit code of the commands", process.waitFor(), 0);
        return text.lines().toList();
    }
}
