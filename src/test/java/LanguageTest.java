import java.io.IOException;
import java.nio.charset.StandardCharsets;
import java.nio.file.Files;
import java.nio.file.Path;
import java.util.regex.Matcher;
import java.util.regex.Pattern;

/** The rules of LANGUAGE.md that can be seen from the text of the program. The program's path may be told. */
final class LanguageTest {
    // What no line may hold outside comments, and the rule that forbids it.
    private static final String[][] NEVER = {
        {"->", "3: no lambda"},
        {"::", "2: no method reference"},
        {"\\b(try|catch|finally|throw|throws)\\b", "6: nothing is thrown here, nothing caught"},
        {"\\b(synchronized|assert|volatile|transient|native|strictfp)\\b", "6"},
        {"\\b(public|protected)\\s+(static\\s+)?(abstract\\s+)?(class|enum|record|interface)\\b", "1: inner ones"},
        {"\\b(Float|Double|System\\.(out|err|in|exit|nano|current)|Random|Thread|Object)\\b", "4"},
        {"\\w+Exact\\b", "4"},
        {"\\b(equals|hashCode|toString|getClass)\\b", "6"},
        {"\\bfor \\(\\w[\\w\\[\\]<>]* \\w+ : ", "12: lists by index"},
        {"\\[\\]\\[\\]|\\[[^\\]]*\\]\\[", "3: arrays of one dimension are all that is needed here"},
        {"\"", "3: no texts here"},
        {"\\bstatic \\{", "5: no initialiser block"},
        {"\\bwhile \\(true\\)|for \\(;;\\)", "9: an end that can be seen"},
    };
    private static final String[] LIBRARY = {
        "System.arraycopy", "Arrays.copyOf", "Arrays.fill", "Math.max", "Math.min", "Integer.bitCount",
        "Long.bitCount",
    };

    private LanguageTest() {
    }

    public static void main(String[] args) throws IOException {
        Path path = Path.of(args.length > 0 ? args[0] : "src/main/java/QuorumGate.java");
        String text = new String(Files.readAllBytes(path), StandardCharsets.UTF_8);
        for (int i = 0; i < text.length(); i++) {
            Check.isTrue("sign " + i + " is plain", text.charAt(i) >= 1 && text.charAt(i) <= 127);
        }
        String code = text.replaceAll("(?s)/\\*.*?\\*/", "").replaceAll("//[^\n]*", "");
        for (String[] never : NEVER) {
            Matcher m = Pattern.compile(never[0]).matcher(code);
            boolean found = m.find();
            Check.isTrue("rule " + never[1] + ": " + (found ? m.group() : ""), !found);
        }
        imports(code);
        library(code);
        statics(code);
        lengths(code);
        Check.end("LanguageTest");
    }

    private static void imports(String code) {
        Matcher m = Pattern.compile("(?m)^(import|package) (.*)$").matcher(code);
        while (m.find()) {
            Check.isTrue("import " + m.group(2), m.group(2).equals("java.util.Arrays;"));
        }
    }

    private static void library(String code) {
        Matcher m = Pattern.compile("\\b(System|Arrays|Math|Integer|Long|String|StringBuilder)\\b(\\.\\w+)?").matcher(code);
        while (m.find()) {
            boolean isAllowed = m.group().equals("Arrays") || m.group().equals("Integer.MAX_VALUE");
            for (String allowed : LIBRARY) {
                isAllowed |= m.group().equals(allowed);
            }
            Check.isTrue("library: " + m.group(), isAllowed);
        }
    }

    private static void statics(String code) {
        Matcher m = Pattern.compile("(?m)^\\s*(private |public )?static (?!final |final\\b)(.*)$").matcher(code);
        while (m.find()) {
            boolean isMethod = m.group(2).contains("(");
            Check.isTrue("static: " + m.group().trim(), isMethod);
        }
    }

    /** Of methods the lines and the parameters. */
    private static void lengths(String code) {
        String[] lines = code.split("\n");
        int open = -1;
        String end = "";
        for (int i = 0; i < lines.length; i++) {
            Matcher m = Pattern.compile("^( {4}| {8})(?!if|for|while|switch|else)[\\w\\[\\]<> ]*\\w\\((.*)\\) \\{$")
                .matcher(lines[i]);
            if (m.find()) {
                open = i;
                end = m.group(1) + "}";
                Check.isTrue("parameters: " + lines[i].trim(), m.group(2).split(",").length <= 7);
            } else if (open >= 0 && lines[i].equals(end)) {
                Check.isTrue("lines: " + lines[open].trim(), i - open < 60);
                open = -1;
            }
        }
    }
}
