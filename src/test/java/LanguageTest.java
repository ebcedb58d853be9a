import java.io.IOException;
import java.nio.file.Files;
import java.nio.file.Path;
import java.util.regex.Matcher;
import java.util.regex.Pattern;

/** LANGUAGE.md, as far as a look at the source can tell: words that may not stand there, and the face. */
public final class LanguageTest {
    public static void main(String[] args) throws IOException {
        String source = Files.readString(Path.of("src/main/java/ProofHouse.java"));
        String code = source.replaceAll("(?s)/\\*.*?\\*/", " ").replaceAll("//[^\n]*", " ").replaceAll("\"[^\"\n]*\"", "\"\"");
        for (String word : new String[] {"throw", "throws", "try", "catch", "finally", "synchronized", "assert", "package",
            "hashCode", "toString", "lambda", "Exception", "Random", "Thread", "double", "float", "protected", "native",
            "volatile", "transient", "new String", "System\\.(?!arraycopy)", "->", "::"}) {
            String edge = Character.isLetter(word.charAt(0)) ? "\\b" : "";
            Tester.same("the source has " + word, Pattern.compile(edge + word).matcher(code).find(), false);
        }
        Matcher imports = Pattern.compile("import ([^;]+);").matcher(code);
        while (imports.find()) {
            Tester.same("import", imports.group(1), "java.util.Arrays");
        }
        Matcher statics = Pattern.compile("\\bstatic (?!final|long pairCell)\\w+").matcher(code);
        Tester.same("static state", statics.find(), false);
        int publics = 0;
        Matcher all = Pattern.compile("\\bpublic\\b").matcher(code);
        while (all.find()) {
            publics++;
        }
        Tester.same("public ones: the class, NONE, the constructor and twelve methods", publics, 15);
        Matcher classes = Pattern.compile("\\b(class|record|enum|interface) [A-Z]\\w*").matcher(code);
        int count = 0;
        while (classes.find()) {
            count++;
        }
        Tester.same("classes", count <= 12, true);
        Tester.finish();
    }
}
