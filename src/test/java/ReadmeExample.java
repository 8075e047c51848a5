import java.io.IOException;
import java.lang.reflect.Method;
import java.lang.reflect.Modifier;
import java.nio.file.Files;
import java.nio.file.Path;
import java.util.ArrayList;
import java.util.List;
import java.util.regex.Matcher;
import java.util.regex.Pattern;

/**
 * Makes of the java blocks of README.md the program ReadmeCalls: all its calls as they are shown there, then twice, each
 * time on a new object, with each answer held against the one that README.md tells behind the call.
 */
public final class ReadmeExample {
    private static final Pattern CALL = Pattern.compile("\\bbench\\.(\\w+)\\(");
    /** A statement of one line, and behind it the answer, up to a colon or the end. */
    private static final Pattern SHOWN = Pattern.compile("(?:int (\\w+) = )?(bench\\.\\w+\\(.*\\));\\s+// ([^:]+)(?::.*)?");

    private final List<String> functions = new ArrayList<>();
    private final List<String> statements = new ArrayList<>();

    private ReadmeExample() {
    }

    public static void main(String[] args) throws IOException {
        String readme = Files.readString(Path.of(args[0]));
        ReadmeExample example = new ReadmeExample();
        example.takeBlocks(readme);
        example.lookForEachMethod(readme);
        Files.writeString(Path.of(args[1], "ReadmeCalls.java"), example.program());
        Check.close("ReadmeExample");
    }

    private void takeBlocks(String readme) {
        Matcher blocks = Pattern.compile("(?ms)^```java\n(.*?)^```$").matcher(readme);
        while (blocks.find()) {
            List<String> block = blocks.group(1).lines().toList();
            boolean ofFunctions = block.get(0).startsWith("static ");
            (ofFunctions ? functions : statements).addAll(block);
        }
        Check.due("README.md shows calls", statements.isEmpty(), false);
    }

    /** README.md tells of each method of the face what comes back, and shows a call of it. */
    private void lookForEachMethod(String readme) {
        String shown = String.join("\n", statements);
        for (Method method : SungEvidence.class.getDeclaredMethods()) {
            if (Modifier.isPublic(method.getModifiers())) {
                String name = method.getName();
                Check.due("README.md shows bench." + name, shown.contains("bench." + name + "("), true);
                Check.due("README.md tells what " + name + " answers", readme.contains("| `" + name + "("), true);
            }
        }
    }

    private String program() {
        StringBuilder all = new StringBuilder("public final class ReadmeCalls {\n");
        all.append("private static final int NONE = SungEvidence.NONE;\n");
        functions.forEach(line -> all.append(line).append('\n'));
        all.append("static void asShown() {\n");
        statements.forEach(line -> all.append(line).append('\n'));
        all.append("}\nstatic void held() {\n");
        statements.forEach(line -> all.append(held(line)).append('\n'));
        all.append("}\npublic static void main(String[] args) {\n");
        all.append("asShown();\nheld();\nheld();\nCheck.close(\"ReadmeCalls\");\n}\n}\n");
        return all.toString();
    }

    /** A line with a call must tell its answer, so that nothing which is shown goes untested. */
    private static String held(String line) {
        if (!CALL.matcher(line).find()) {
            return line;
        }
        Matcher shown = SHOWN.matcher(line);
        boolean told = shown.matches();
        Check.due("README.md tells an answer: " + line, told, true);
        if (!told) {
            return line;
        }
        String name = shown.group(1);
        String got = name == null ? shown.group(2) : name;
        String made = name == null ? "" : "int " + name + " = " + shown.group(2) + "; ";
        String words = "README.md: " + shown.group(2).replace("\"", "'");
        return made + "Check.due(\"" + words + "\", " + got + ", " + shown.group(3) + ");";
    }
}
