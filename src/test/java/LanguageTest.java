import java.io.IOException;
import java.nio.file.Files;
import java.nio.file.Path;
import java.util.ArrayList;
import java.util.HashSet;
import java.util.List;
import java.util.Set;
import java.util.regex.Matcher;
import java.util.regex.Pattern;

/** What of ../shared/LANGUAGE.md can be seen from the text of the program, and that its calls make no objects. */
public final class LanguageTest {
    private static final Path PROGRAM = Path.of("src/main/java/RuleNet.java");
    private static final String[] FORBIDDEN = {"throw", "throws", "try", "catch", "finally", "synchronized", "assert",
        "import", "package", "native", "volatile", "transient", "var", "Object", "Override", "System\\.out", "hashCode",
        "equals", "toString", "::", "->", "\"", "\\w+Exact", "Exception", "Error", "float", "double", "while \\(true\\)"};

    private static int wrong = 0;

    private static void expect(boolean holds, String rule) {
        if (!holds) {
            wrong++;
            System.out.println("not kept: " + rule);
        }
    }

    public static void main(String[] args) throws IOException {
        String text = Files.readString(PROGRAM);
        for (char c : text.toCharArray()) {
            if (c > 126 || c < 32 && c != '\n') {
                expect(false, "signs of the text, " + (int) c);
            }
        }
        String code = text.replaceAll("(?s)/\\*.*?\\*/", "").replaceAll("//[^\n]*", "");
        for (String word : FORBIDDEN) {
            String regex = Character.isLetter(word.charAt(0)) ? "\\b" + word + "\\b" : word;
            expect(!Pattern.compile(regex).matcher(code).find(), "6, no " + word);
        }
        methods(code);
        objects(code);
        System.out.println(wrong == 0 ? "the language is kept" : wrong + " rules are not kept");
        if (wrong != 0) {
            System.exit(1);
        }
    }

    private static void methods(String code) {
        Pattern method = Pattern.compile("\n( +)((?:public |private |static )*)(\\w+(?:\\[\\])?) (\\w+)\\(([^)]*)\\) \\{");
        Set<String> publicNames = new HashSet<>();
        List<String> otherNames = new ArrayList<>();
        Matcher m = method.matcher(code);
        while (m.find()) {
            if (m.group(2).contains("public ")) {
                publicNames.add(m.group(4));
            } else {
                otherNames.add(m.group(4));
            }
            int parameters = m.group(5).isEmpty() ? 0 : m.group(5).split(",").length;
            expect(parameters <= 7, "11, parameters of " + m.group(4));
            int end = code.indexOf("\n" + m.group(1) + "}", m.end());
            long lines = code.substring(m.start(), end).lines().count();
            expect(lines <= 60, "11, lines of " + m.group(4));
        }
        expect(publicNames.size() == 29, "1, the face has 29 methods, not " + publicNames.size());
        for (String name : otherNames) {
            expect(!publicNames.contains(name), "1, a name of the face is used again: " + name);
        }
    }

    private static void objects(String code) {
        Matcher made = Pattern.compile("\n([^\n]*\\bnew\\b[^\n]*)").matcher(code);
        int all = 0;
        while (made.find()) {
            all++;
            String line = made.group(1);
            boolean field = line.matches(" +final .*");
            boolean constructor = line.matches(" +\\w+(\\[p\\])? = new .*");
            expect(field || constructor, "12, objects are made by constructors alone: " + line.trim());
        }
        expect(all > 0, "objects are seen");
        long classes = Pattern.compile("\\bclass \\w+").matcher(code).results().count();
        expect(classes <= 12, "11, classes: " + classes);
        expect(!code.contains("static {"), "5, no static block");
    }
}
