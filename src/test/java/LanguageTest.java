import java.nio.file.Files;
import java.nio.file.Path;
import java.util.regex.Matcher;
import java.util.regex.Pattern;

/** Words and shapes that LANGUAGE.md rules out and that a look at the text can find. Run from the project's root. */
public final class LanguageTest {
    private static final String[] RULED_OUT = {
        "\\bpackage\\b", "\\bimport\\b", "\\bthrows?\\b", "\\btry\\b", "\\bcatch\\b", "\\bsynchronized\\b", "\\bassert\\b",
        "->", "::", "\\bstatic\\s*\\{", "\\bnative\\b", "\\bvolatile\\b", "\\bprotected\\b", "Exact\\b",
        "\\b(double|float|Object|Thread|Random|Iterator)\\b", "\\bSystem\\.(?!arraycopy\\b)", "\\bMath\\.(?!abs\\b|min\\b|max\\b)",
        "\\bhashCode\\b", "\\btoString\\b", "\\bequals\\b", "while\\s*\\(true\\)", "for\\s*\\(;;",
    };
    private static final Pattern METHOD =
        Pattern.compile("(?m)^( +)(?:(?:public|private|static|final) )*(?:[\\w\\[\\]]+ )?(\\w+)\\(([^)]*)\\) \\{$");

    private static int wrong = 0;

    private static void fault(String what) {
        wrong++;
        System.out.println(what);
    }

    public static void main(String[] args) throws Exception {
        String text = Files.readString(Path.of("src/main/java/BeliefWeb.java"));
        String code = text.replaceAll("(?s)/\\*.*?\\*/", "").replaceAll("//[^\n]*", "");
        for (String word : RULED_OUT) {
            Matcher m = Pattern.compile(word).matcher(code);
            if (m.find()) fault("ruled out: " + m.group());
        }
        for (int i = 0; i < text.length(); i++) if (text.charAt(i) > 126) fault("a character outside plain text at " + i);
        methods(code);
        System.out.println(wrong == 0 ? "the text keeps to the language" : wrong + " faults in the text");
        if (wrong != 0) System.exit(1);
    }

    private static void methods(String code) {
        int many = 0;
        Matcher m = METHOD.matcher(code);
        while (m.find()) {
            if (m.group(2).matches("if|for|while|switch")) continue;
            many++;
            int end = code.indexOf("\n" + m.group(1) + "}", m.end());
            int lines = code.substring(m.start(), end < 0 ? code.length() : end).split("\n").length + 1;
            if (lines > 60) fault(m.group(2) + " has " + lines + " lines");
            if (m.group(3).split(",").length > 7) fault(m.group(2) + " takes too many arguments");
        }
        if (many < 30) fault("only " + many + " methods were found");
    }
}
