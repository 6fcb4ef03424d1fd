import java.io.IOException;
import java.nio.file.Files;
import java.nio.file.Path;
import java.util.List;
import java.util.regex.Pattern;

/** Rules of LANGUAGE.md that can be seen in the program's letters. The file is named by the property told.source. */
public final class RulesTest {
    private static final String DIVISOR_NOT_WRITTEN_OUT = "[/%]=?+\\s*+(?![1-9])";
    private static final String[] NOT_HERE = {"->", "::", "\\bcatch\\b", "\\btry\\b", "\\bfinally\\b", "\\bthrow\\b",
        "\\bthrows\\b", "\\bassert\\b", "\\bsynchronized\\b", "\\bvolatile\\b", "\\binstanceof\\b", "\\bpackage\\b",
        "\\bwhile\\b", "\\bdouble\\b", "\\bfloat\\b", "\\bSystem\\.(?!arraycopy\\b)", "\\bThread\\b", "Exact\\b",
        "\\bequals\\b", "\\bhashCode\\b", "\\btoString\\b", "static\\s*\\{", "\"\\s*\\+", "\\+\\s*\"",
        DIVISOR_NOT_WRITTEN_OUT};
    private static final int LONGEST_METHOD = 60;

    private RulesTest() {
    }

    public static void main(String[] args) throws IOException {
        String named = System.getProperty("told.source");
        Path source = Path.of(named == null ? "src/main/java/ToldInKnots.java" : named);
        List<String> lines = Files.readAllLines(source);
        Checks checks = new Checks();
        boolean comment = false;
        int begun = -1;
        for (int i = 0; i < lines.size(); i++) {
            String line = lines.get(i);
            String where = "line " + (i + 1) + ", '" + line.trim() + "', ";
            checks.holds(where + "is of plain letters", line.chars().allMatch(c -> c >= 32 && c < 127));
            comment = comment || line.trim().startsWith("/*");
            String code = comment ? "" : line.replaceAll("//.*", "");
            comment = comment && !line.contains("*/");
            for (String rule : NOT_HERE) {
                checks.holds(where + "has no " + rule, !Pattern.compile(rule).matcher(code).find());
            }
            if (code.startsWith("import")) {
                checks.holds(where + "is of the library", code.equals("import java.util.Arrays;"));
            }
            // what a run makes is made with the object: no call of the face makes anything
            if (code.contains("new ")) {
                checks.holds(where + "is a field's row", code.trim().startsWith("private")
                    || code.contains("slots = new int["));
            }
            if (code.matches("    (    )?\\S.*\\) \\{")) {
                begun = i;
            } else if (begun >= 0 && code.matches("    (    )?\\}")) {
                checks.holds(where + "ends a short method", i - begun < LONGEST_METHOD);
                begun = -1;
            }
        }
        checks.end("RulesTest");
    }
}
