import java.nio.charset.StandardCharsets;
import java.nio.file.Files;
import java.nio.file.Path;
import java.util.regex.Pattern;

/** Looks in the source for what LANGUAGE.md refuses and can be seen by its words alone. */
public final class LanguageTest {
    private static final String[] REFUSED = {
        "->", "::", "^package\\b", "\\bfinally\\b", "\\bsynchronized\\b", "\\bassert\\b", "\\w+Exact\\b",
        "\\bimport\\b(?! java\\.util\\.(Arrays|ArrayList|List|Iterator|NoSuchElementException);)",
        "\\bcatch\\s*\\(\\s*(Exception|Throwable|Error|ArrayIndexOutOfBoundsException|NullPointerException"
            + "|ClassCastException|NegativeArraySizeException|ArrayStoreException)\\b",
        "\\b(equals|hashCode|toString|getMessage)\\s*\\(", "\\bSystem\\.(?!arraycopy)", "\\bThread\\b",
        "\\bMAX_VALUE\\b", "\\bMIN_VALUE\\b", "\\bMath\\.(?!abs\\b|max\\b|min\\b|floorDiv\\b|floorMod\\b)",
        "static\\s*\\{", "\"\\s*\\+", "\\+\\s*\"",
    };

    public static void main(String[] args) throws Exception {
        String file = args.length > 0 ? args[0] : "src/main/java/Gridpeer.java";
        String source = Files.readString(Path.of(file), StandardCharsets.ISO_8859_1);
        String code = source.replaceAll("(?s)/\\*.*?\\*/", "").replaceAll("//[^\n]*", "");
        for (String refused : REFUSED) {
            boolean found = Pattern.compile(refused, Pattern.MULTILINE).matcher(code).find();
            Check.due("the source holds " + refused, found, false);
        }
        Check.due("signs above 127", source.chars().allMatch(sign -> sign < 128), true);
        Check.end();
    }
}
