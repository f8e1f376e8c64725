import java.io.IOException;
import java.nio.file.Files;
import java.nio.file.Path;
import java.util.ArrayList;
import java.util.List;
import java.util.regex.Matcher;
import java.util.regex.Pattern;

/** The rules of LANGUAGE.md that can be seen in the text of the class; run from the project's folder. */
final class LanguageTest {
    private static final Path SOURCE = Path.of("src", "main", "java", "SubtitleDesk.java");
    // What the machine throws is named too: no call may be answered by catching it.
    private static final String[] FORBIDDEN = {"::", "finally", "synchronized", "assert", "static {", "while (true)", "for (;;)",
        "Exact(", "System.out", "System.err", "System.exit", "Random", "Thread", "Class", "Object", "Error", "Throwable", "Exception",
        "NullPointerException", "ArrayIndexOutOfBoundsException", "StringIndexOutOfBoundsException", "ClassCastException",
        "NegativeArraySizeException", "ArrayStoreException", "getMessage", "hashCode", "\" +", "+ \"", "package "};
    private static final Pattern IMPORT = Pattern.compile("import java\\.util\\.(NoSuchElementException|ArrayList|List|Arrays|Iterator);");
    private static final Pattern THROW = Pattern.compile("throw new (IllegalStateException|IllegalArgumentException"
            + "|IndexOutOfBoundsException|ArithmeticException|UnsupportedOperationException|NoSuchElementException|RuntimeException)"
            + "\\((\"[ -!#-~]*\")?\\);");
    private static final Pattern METHOD = Pattern.compile("^( {4}| {8})(?! )[\\w\\[\\] ]*?(\\w+)\\(([^;]*)$");

    private final Check check = new Check("LanguageTest");

    public static void main(String[] args) throws IOException {
        LanguageTest test = new LanguageTest();
        List<String> code = new ArrayList<>();
        for (String line : Files.readAllLines(SOURCE)) {
            test.check.isTrue("plain signs in: " + line, line.chars().allMatch(sign -> sign >= 32 && sign < 127));
            String bare = line.strip();
            code.add(bare.startsWith("//") || bare.startsWith("/*") || bare.startsWith("*") ? "" : line);
        }
        test.checkWords(code);
        test.checkThrows(code);
        test.checkClasses(code);
        test.checkMethods(code);
        test.check.end();
    }

    private void checkWords(List<String> code) {
        for (String line : code) {
            for (String word : FORBIDDEN) {
                boolean isWord = word.chars().allMatch(Character::isLetter);
                Matcher matcher = Pattern.compile((isWord ? "\\b" : "") + Pattern.quote(word) + (isWord ? "\\b" : "")).matcher(line);
                check.isTrue("without " + word + ": " + line, !matcher.find());
            }
            if (line.startsWith("import")) {
                check.isTrue(line, IMPORT.matcher(line).matches());
            }
        }
    }

    private void checkThrows(List<String> code) {
        for (String line : code) {
            if (line.contains("throw ")) {
                check.isTrue("a throw as rule 6 has it: " + line, THROW.matcher(line.strip()).matches());
            }
        }
    }

    private void checkClasses(List<String> code) {
        int classes = 0;
        for (String line : code) {
            if (line.matches(" *(public |private |static |final )*class .*")) {
                classes++;
                check.isTrue("not seen from outside: " + line, classes == 1 || !line.contains("public") && !line.contains("protected"));
            }
        }
        check.isTrue("twelve classes at the most", classes >= 1 && classes <= 12);
    }

    private void checkMethods(List<String> code) {
        int methods = 0;
        for (int i = 0; i < code.size(); i++) {
            Matcher matcher = METHOD.matcher(code.get(i));
            if (!matcher.matches() || code.get(i).contains("=") || code.get(i).contains(" class ")) {
                continue;
            }
            methods++;
            String end = matcher.group(1) + "}";
            int last = i;
            while (last + 1 < code.size() && !code.get(last).equals(end)) {
                last++;
            }
            check.isTrue(matcher.group(2) + " has some sixty lines at the most", last - i < 66);
            check.isTrue(matcher.group(2) + " has 7 parameters at the most", matcher.group(3).split(",").length <= 7);
        }
        check.isTrue("methods were found", methods >= 26);
    }
}
