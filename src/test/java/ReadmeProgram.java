import java.io.IOException;
import java.nio.file.Files;
import java.nio.file.Path;
import java.util.regex.Matcher;
import java.util.regex.Pattern;

/** Prints the program that README.md shows, each call with an answer made a check of this answer. */
public final class ReadmeProgram {
    private static final Pattern BLOCK = Pattern.compile("(?s)```java\n(.*?)```");
    private static final Pattern SHOWN = Pattern.compile(
            "(x\\.\\w+\\(.*?\\)); *// (NONE|-?\\d+|true|false|throws \\w+)(:.*|;.*)?");
    private static final Pattern SILENT = Pattern.compile("x\\.(image|forget)\\(\\);");

    private ReadmeProgram() {
    }

    public static void main(String[] args) throws IOException {
        StringBuilder members = new StringBuilder();
        StringBuilder steps = new StringBuilder();
        Matcher block = BLOCK.matcher(Files.readString(Path.of(args[0])));
        while (block.find()) {
            if (block.group(1).startsWith("static ")) {
                members.append(block.group(1));
            } else {
                for (String line : block.group(1).split("\n")) {
                    steps.append(step(line)).append('\n');
                }
            }
        }
        System.out.println("public final class ReadmeRun {\n" + members
                + "public static void main(String[] args) {\n" + steps + "Checks.finish();\n}\n}");
    }

    private static String step(String line) {
        Matcher shown = SHOWN.matcher(line);
        if (shown.matches()) {
            return check(shown.group(1), shown.group(2));
        }
        // a call whose answer isn't told in this form would go by unlooked at
        if (line.startsWith("x.") && !SILENT.matcher(line).matches()) {
            throw new IllegalArgumentException("README.md shows no answer of " + line);
        }
        return line;
    }

    private static String check(String call, String answer) {
        String name = "\"README.md: " + call + "\"";
        switch (answer) {
            case "throws NoSuchElementException":
                return "Checks.noSuch(" + name + ", () -> " + call + ");";
            case "throws IllegalArgumentException":
                return "Checks.illegal(" + name + ", () -> " + call + ");";
            case "NONE":
                return "Checks.same(" + name + ", TurnBrothers.NONE, " + call + ");";
            default:
                return "Checks.same(" + name + ", " + answer + ", " + call + ");";
        }
    }
}
