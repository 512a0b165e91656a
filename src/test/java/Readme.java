import java.io.IOException;
import java.nio.file.Files;
import java.nio.file.Path;
import java.util.regex.Matcher;
import java.util.regex.Pattern;

/**
 * Makes a program, ReadmeCalls, of the Java on README.md: a block that begins with "static" is taken as it is, and of
 * any other each line is a new town, a remark, or a call with its answer behind it. Its argument is the folder of the
 * program.
 */
public final class Readme {
    private static final Pattern CALL = Pattern.compile("(\\w.*\\));\\s+// (-?\\d+|true|false)(: .*)?");
    private static final Pattern TOWN = Pattern.compile("NineLaws \\w+ = new NineLaws\\(\\);");
    private static final int FEWEST_CALLS = 60;

    private final StringBuilder helpers = new StringBuilder();
    private final StringBuilder steps = new StringBuilder();
    private int calls;

    private Readme() { }

    public static void main(String[] args) throws IOException {
        Readme readme = new Readme();
        boolean fine = readme.read(Files.readString(Path.of("README.md")).split("\n", -1));
        Files.writeString(Path.of(args[0], "ReadmeCalls.java"), readme.program());
        if (!fine || readme.calls < FEWEST_CALLS) {
            System.out.println("README.md has " + readme.calls + " calls with an answer");
            System.exit(1);
        }
    }

    private boolean read(String[] lines) {
        boolean fine = true;
        boolean inBlock = false;
        boolean inHelper = false;
        for (int i = 0; i < lines.length; i++) {
            if (lines[i].startsWith("```")) {
                inBlock = lines[i].equals("```java");
                inHelper = inBlock && lines[i + 1].startsWith("static ");
            } else if (inHelper) {
                helpers.append(lines[i]).append('\n');
            } else if (inBlock && !step(lines[i])) {
                fine = false;
                System.out.println("README.md, line " + (i + 1) + " is no call with an answer: " + lines[i]);
            }
        }
        return fine;
    }

    private boolean step(String line) {
        Matcher call = CALL.matcher(line);
        if (call.matches()) {
            calls++;
            String told = call.group(1).replace("\\", "\\\\").replace("\"", "\\\"");
            steps.append("due(\"").append(told).append("\", ").append(call.group(1)).append(", ")
                    .append(call.group(2)).append(");\n");
            return true;
        }
        if (TOWN.matcher(line).matches()) {
            steps.append(line).append('\n');
            return true;
        }
        return line.isEmpty() || line.startsWith("// ");
    }

    private String program() {
        return """
                public final class ReadmeCalls {
                private static int wrong;
                static void due(String call, int answered, int due) {
                    if (answered != due) {
                        wrong++;
                        System.out.println("README.md: " + call + " answered " + answered + ", README.md says " + due);
                    }
                }
                static void due(String call, boolean answered, boolean due) {
                    if (answered != due) {
                        wrong++;
                        System.out.println("README.md: " + call + " answered " + answered + ", README.md says " + due);
                    }
                }
                """ + helpers + "public static void main(String[] args) {\n" + steps
                + "System.out.println(\"README.md: " + calls + " calls, \" + wrong + \" wrong\");\n"
                + "if (wrong != 0) {\nSystem.exit(1);\n}\n}\n}\n";
    }
}
