import java.io.IOException;
import java.nio.charset.StandardCharsets;
import java.nio.file.Files;
import java.nio.file.Path;
import java.util.HashSet;
import java.util.Set;
import java.util.regex.Matcher;
import java.util.regex.Pattern;

/** Those rules of LANGUAGE.md that the program's text shows. It is run from the project's root. */
public final class LanguageTests {
    private static int wrong = 0;

    public static void main(String[] args) throws IOException {
        String text = Files.readString(Path.of("src/main/java/DoorSticks.java"), StandardCharsets.UTF_8);
        String code = withoutCommentsAndTexts(text);
        forbidden(code);
        library(code);
        members(code);
        methods(code);
        operators(code);
        handedOut(code);
        System.out.println(wrong == 0 ? "LanguageTests: all as due" : "LanguageTests: " + wrong + " wrong");
        System.exit(wrong == 0 ? 0 : 1);
    }

    private static void tell(String rule, String what) {
        wrong++;
        System.out.println("rule " + rule + ": " + what.trim());
    }

    private static String withoutCommentsAndTexts(String text) {
        return text.replaceAll("(?s)/\\*.*?\\*/", "").replaceAll("//[^\n]*", "")
            .replaceAll("\"[^\"\n]*\"", "\"\"").replaceAll("'[^'\n]+'", "'x'");
    }

    private static void forbidden(String code) {
        Matcher m = Pattern.compile("\\b(throw|throws|try|catch|finally|synchronized|assert|package|protected|volatile"
            + "|transient|native|yield|var|Object|Override|hashCode|toString|equals|float|double|Thread|Random"
            + "|currentTimeMillis|nanoTime|null\\)\\.)\\b|->|::|@|\\w*Exact\\b|\\.\\.\\.").matcher(code);
        while (m.find()) {
            tell("6", "'" + m.group() + "' stands in the program");
        }
    }

    private static void library(String code) {
        Matcher imports = Pattern.compile("import ([^;]*);").matcher(code);
        while (imports.find()) {
            if (!imports.group(1).equals("java.util.Arrays")) {
                tell("4", imports.group());
            }
        }
        Set<String> known = Set.of("Math.max", "Math.min", "Math.abs", "Arrays.fill", "Arrays.copyOf", "Long.MIN_VALUE",
            "System.arraycopy");
        Matcher used = Pattern.compile("\\b(Math|Arrays|Long|Integer|System|String|List|StringBuilder)\\.\\w+").matcher(code);
        while (used.find()) {
            if (!known.contains(used.group())) {
                tell("4", used.group());
            }
        }
    }

    private static void members(String code) {
        Matcher m = Pattern.compile("(?m)^    (?! )(?!public |private |\\}|//|\\s*$)(.*)$").matcher(code);
        while (m.find()) {
            tell("1", m.group());
        }
        Matcher fixed = Pattern.compile("(?m)^.*\\bstatic (?!final|.*\\().*$").matcher(code);
        while (fixed.find()) {
            tell("5", fixed.group());
        }
        Matcher inner = Pattern.compile("(?m)^ +(.*)\\b(class|interface|enum|record) \\w+.*\\{").matcher(code);
        int classes = 1;
        while (inner.find()) {
            classes++;
            if (!inner.group(1).contains("static")) {
                tell("2", inner.group());
            }
        }
        if (classes > 12) {
            tell("11", classes + " classes");
        }
    }

    private static void methods(String code) {
        Set<String> open = new HashSet<>();
        Matcher m = Pattern.compile("(?m)^    public \\w+ (\\w+)\\(").matcher(code);
        while (m.find()) {
            open.add(m.group(1));
        }
        Matcher any = Pattern.compile("(?m)^( +)((?:private |public |static |final )*)([\\w\\[\\]]+ )?(\\w+)\\(([^()]*)\\) \\{$")
            .matcher(code);
        int found = 0;
        while (any.find()) {
            String name = any.group(4);
            if (Set.of("if", "for", "while", "switch").contains(name)) {
                continue;
            }
            found++;
            if (open.contains(name) && !any.group(2).contains("public")) {
                tell("1", "a method of the face's name: " + any.group());
            }
            if (any.group(5).split(",").length > 7) {
                tell("11", "more than seven parameters: " + any.group());
            }
            int end = code.indexOf("\n" + any.group(1) + "}", any.end());
            String body = code.substring(any.end(), Math.max(any.end(), end));
            if (body.lines().count() > 60) {
                tell("11", body.lines().count() + " lines: " + any.group());
            }
            boolean callsItself = Pattern.compile("(?<!\\.)\\b" + name + "\\(").matcher(body).find();
            if (callsItself && !any.group(2).contains("private static")) {
                tell("8", "calls itself and is not private and static: " + any.group());
            }
        }
        if (open.size() != 33 || found < 80) {
            tell("1", "of the methods only " + open.size() + " open ones, " + found + " in all were found");
        }
    }

    /** Rule 10 names && and || of booleans, and no other. */
    private static void operators(String code) {
        Matcher named = Pattern.compile("\\bboolean (\\w+)\\b(?!\\()").matcher(code);
        while (named.find()) {
            Matcher joined = Pattern.compile("\\b" + named.group(1) + " [|&^]=? [^|&].*").matcher(code);
            while (joined.find()) {
                tell("10", joined.group());
            }
        }
    }

    /** Rule 12: what a class makes at its fields is not made with another field of the same object. */
    private static void handedOut(String code) {
        Matcher made = Pattern.compile("(?m)^( {4}| {8})(private |final )[\\w \\[\\]]*= new \\w+\\((.*)\\);$").matcher(code);
        int found = 0;
        while (made.find()) {
            found++;
            if (made.group(3).replaceAll("\\bnew \\w+", "").matches(".*\\b[a-z]\\w*.*")) {
                tell("12", made.group());
            }
        }
        if (found < 8) {
            tell("12", "of what is made at fields only " + found + " were found");
        }
    }
}
