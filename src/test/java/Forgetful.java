import java.io.IOException;
import java.nio.file.Files;
import java.nio.file.Path;
import java.util.regex.Matcher;
import java.util.regex.Pattern;

/**
 * Writes a copy of the class that answers nonsense behind its 512th call. The document leaves it free to do so,
 * therefore every test has to pass with the copy too: one that fails asks for more than is promised.
 */
public final class Forgetful {
    private static final int PROMISED_CALLS = 512;
    private static final int FACE_METHODS = 20;
    private static final String FIELDS =
            "    private static final int[] NONSENSE = {-900000000};\n    private int callsMade = 0;\n\n";
    private static final Pattern HEAD = Pattern.compile("(?m)^ {4}public (int|boolean|void) \\w+\\([^{;]*\\{\n");
    private static final Pattern CONSTRUCTOR = Pattern.compile("(?m)^ {4}public Gridpeer\\(\\)");

    public static void main(String[] args) throws IOException {
        String source = Files.readString(Path.of(args[0]));
        Matcher head = HEAD.matcher(source);
        StringBuilder copy = new StringBuilder();
        int methods = 0;
        while (head.find()) {
            head.appendReplacement(copy, Matcher.quoteReplacement(head.group() + forgetting(head.group(1))));
            methods++;
        }
        head.appendTail(copy);
        Matcher constructor = CONSTRUCTOR.matcher(copy);
        if (methods != FACE_METHODS || !constructor.find()) {
            System.out.println("Forgetful finds " + methods + " methods of the face in " + args[0]);
            System.exit(1);
        }
        copy.insert(constructor.start(), FIELDS);
        Path target = Path.of(args[1]);
        Files.createDirectories(target.getParent());
        Files.writeString(target, copy);
    }

    // No two answers are the same, so that two objects that are both used up don't look alike.
    private static String forgetting(String type) {
        String nonsense = type.equals("int") ? " --NONSENSE[0]" : type.equals("boolean") ? " --NONSENSE[0] % 2 == 0" : "";
        return "        if (++callsMade > " + PROMISED_CALLS + ") {\n            return" + nonsense + ";\n        }\n";
    }
}
