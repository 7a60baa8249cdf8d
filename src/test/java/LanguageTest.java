import java.io.IOException;
import java.nio.file.Files;
import java.nio.file.Path;
import java.util.ArrayList;
import java.util.List;
import java.util.regex.Matcher;
import java.util.regex.Pattern;

/** What of ../shared/LANGUAGE.md shows in the words of the program itself, by the rules' numbers. FaceTest looks at rule 1. */
public final class LanguageTest {
    private static final Path PROGRAM = Path.of("src/main/java/WallReadings.java");
    /** A rule's number, then what must not stand in the code. */
    private static final String[][] NEVER = {
        {"2", "->"}, {"2", "::"},
        {"3", "\\[\\]\\s*\\[\\]\\s*\\[\\]"}, {"3", "\\b(Long|Double|Float|Short|Byte|Character|Boolean|Object|Map|Set|HashMap)\\b"},
        {"4", "\\bimport\\b"}, {"4", "\\bjava\\."}, {"4", "Exact\\b"}, {"4", "System\\.(?!arraycopy\\b)"},
        {"5", "\\bstatic\\s*\\{"}, {"5", "\\bstatic (?!final\\b|class\\b)\\S+ \\w+( =|;)"},
        {"6", "\\b(throw|throws|try|catch|finally|synchronized|assert)\\b"}, {"6", "\\b(equals|hashCode|toString|getClass)\\b"},
        {"10", "\"\\s*\\+|\\+\\s*\""},
        {"13", "\\b(Thread|Random|nanoTime|currentTimeMillis|getenv|native|volatile|transient)\\b"}};

    public static void main(String[] args) throws IOException {
        List<String> lines = Files.readAllLines(PROGRAM);
        signsAreAscii(lines);
        String code = String.join("\n", bare(lines));
        for (String[] never : NEVER) {
            Matcher found = Pattern.compile(never[1]).matcher(code);
            Due.is("rule " + never[0] + ": " + never[1] + (found.find() ? " at " + found.group() : ""), !found.reset().find(), true);
        }
        methodsAreShort(bare(lines));
        classesAreFew(code);
        mathIsOfInts(code);
        Due.end("LanguageTest");
    }

    /** The lines without comments, and without what stands in texts and signs. */
    private static List<String> bare(List<String> lines) {
        List<String> bare = new ArrayList<>();
        boolean inComment = false;
        for (String line : lines) {
            String code = line.replaceAll("\"[^\"]*\"", "\"\"").replaceAll("'[^']*'", "0").replaceAll("/\\*.*\\*/", "").replaceAll("//.*", "");
            boolean opens = code.contains("/*");
            bare.add(inComment || opens ? "" : code);
            inComment = (inComment || opens) && !code.contains("*/");
        }
        return bare;
    }

    /** Rule 4: constants' signs are 1 to 127. */
    private static void signsAreAscii(List<String> lines) {
        for (int n = 0; n < lines.size(); n++) {
            int line = n + 1;
            Due.is("rule 4: signs of line " + line, lines.get(n).chars().allMatch(sign -> sign >= 32 && sign < 127), true);
        }
    }

    /** Rule 11: some sixty lines, seven parameters. */
    private static void methodsAreShort(List<String> lines) {
        Pattern head = Pattern.compile("^(\\s+)[\\w\\[\\] ]*\\w+\\((.*)\\) \\{$");
        int methods = 0;
        for (int n = 0; n < lines.size(); n++) {
            Matcher found = head.matcher(lines.get(n));
            if (!found.matches() || lines.get(n).trim().matches("(if|for|while|switch|\\}).*")) {
                continue;
            }
            int end = n;
            while (!lines.get(end).equals(found.group(1) + "}")) {
                end++;
            }
            methods++;
            Due.is("rule 11: lines of" + lines.get(n), end - n <= 60, true);
            Due.is("rule 11: parameters of" + lines.get(n), found.group(2).split(",").length <= 7, true);
        }
        Due.is("methods found", methods > 60, true);
    }

    private static void classesAreFew(String code) {
        Due.is("rule 11: classes", Pattern.compile("\\b(class|record|enum|interface) \\w+").matcher(code).results().count() <= 12, true);
        Due.is("rule 1: public classes", Pattern.compile("\\bpublic final class WallReadings\\b").matcher(code).results().count(), 1);
    }

    /** Rule 4: of Math and Integer no more than is told there, and no number but int and long is used with them. */
    private static void mathIsOfInts(String code) {
        Matcher found = Pattern.compile("\\b(Math|Integer)\\.(\\w+)").matcher(code);
        while (found.find()) {
            Due.is("rule 4: " + found.group(), found.group(2).matches("compare|max|min|abs|bitCount|floorDiv|floorMod"), true);
        }
        Due.is("rule 3: no double, no float", Pattern.compile("\\b(double|float)\\b").matcher(code).results().count(), 0);
    }
}
