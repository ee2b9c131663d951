import java.lang.reflect.Member;
import java.lang.reflect.Modifier;
import java.nio.file.Files;
import java.nio.file.Path;
import java.util.ArrayList;
import java.util.Arrays;
import java.util.List;
import java.util.TreeSet;
import java.util.regex.Matcher;
import java.util.regex.Pattern;

/** The face of the class, and those rules of ../shared/LANGUAGE.md that can be seen in its text. */
public final class LanguageTest {
    private static final String[] FACE = {
        "row:int int int int", "set:int int int long", "copy:int int int int int int", "element:long int int",
        "show:int int int", "holds:int int", "says:int int int", "person:int int", "garment:int int int",
        "own:int int int int", "habit:int int int int int", "wear:int int int", "will:int int int",
        "garmentOf:int int int", "personOf:int int int", "wardrobe:int int", "fault:int", "does:int int int int",
        "goes:int int int int", "behind:int int int int int", "settled:int", "wins:int int", "like:int int int",
        "whose:int int", "fits:int int", "watch:int", "dressed:int int int int", "washed:int int int",
        "kept:int int int", "two:int int int int", "alone:int int", "home:int int", "cure:int int int",
        "judge:int int int", "taught:int int int", "wash:int int", "days:int int", "years:int int", "seed:int int",
        "act:int int int int", "trace:int int", "image:int", "restore:int", "status:int int"};
    private static final String[] NEVER = {
        "\\bthrow\\b", "\\btry\\b", "\\bcatch\\b", "\\bfinally\\b", "\\bsynchronized\\b", "\\bassert\\b", "->", "::",
        "\\bstatic\\s*\\{", "\\bObject\\b", "\\bSystem\\.(?!arraycopy)", "Exact\\b", "\\bStrictMath\\b", "\\bpackage\\b",
        "\\bhashCode\\b", "\\bvolatile\\b", "\\bnative\\b", "\\btransient\\b", "\\bvar\\b", "\\bstream\\b",
        "new\\s+\\w+\\s*\\([^)]*\\)\\s*\\{"};

    public static void main(String[] args) throws Exception {
        String text = bare(Files.readString(Path.of("src/main/java/ClothesRemember.java")));
        face();
        forbidden(text);
        imports(text);
        methods(text);
        Check.end("LanguageTest");
    }

    private static void face() {
        Class<ClothesRemember> type = ClothesRemember.class;
        Check.due("the class is public and final", type.getModifiers(), Modifier.PUBLIC | Modifier.FINAL);
        TreeSet<String> due = new TreeSet<>(Arrays.asList(FACE));
        TreeSet<String> got = new TreeSet<>();
        TreeSet<String> publicNames = new TreeSet<>();
        for (java.lang.reflect.Method method : type.getDeclaredMethods()) {
            if (!Modifier.isPrivate(method.getModifiers())) {
                StringBuilder one = new StringBuilder(method.getName() + ":" + method.getReturnType().getName());
                for (Class<?> parameter : method.getParameterTypes()) {
                    one.append(' ').append(parameter.getName());
                }
                got.add(one.toString());
                publicNames.add(method.getName());
            }
        }
        Check.due("the face is " + due + ", not " + got, got.equals(due) ? 1 : 0, 1);
        List<Member> others = new ArrayList<>(Arrays.asList(type.getDeclaredFields()));
        for (Class<?> inside : type.getDeclaredClasses()) {
            Check.due(inside + " is static", Modifier.isStatic(inside.getModifiers()) ? 1 : 0, 1);
            for (java.lang.reflect.Method method : inside.getDeclaredMethods()) {
                Check.due(inside + "." + method.getName() + " bears a public name",
                    publicNames.contains(method.getName()) ? 1 : 0, 0);
            }
        }
        for (Member member : others) {
            boolean isFine = Modifier.isPrivate(member.getModifiers()) || member.getName().equals("NONE");
            Check.due(member + " is private", isFine ? 1 : 0, 1);
        }
        Check.due("at most twelve classes", type.getDeclaredClasses().length < 12 ? 1 : 0, 1);
    }

    /** The text without comments, and with its texts and signs emptied. */
    private static String bare(String text) {
        return text.replaceAll("(?s)/\\*.*?\\*/", " ").replaceAll("//[^\n]*", " ")
            .replaceAll("\"[^\"]*\"", "\"\"").replaceAll("'.'", "' '");
    }

    private static void forbidden(String text) {
        for (String never : NEVER) {
            Matcher found = Pattern.compile(never).matcher(text);
            Check.due("in the class: " + never, found.find() ? 1 : 0, 0);
        }
    }

    private static void imports(String text) {
        Matcher found = Pattern.compile("import\\s+([^;]+);").matcher(text);
        while (found.find()) {
            boolean isFine = found.group(1).equals("java.util.Arrays") || found.group(1).equals("java.util.ArrayList")
                || found.group(1).equals("java.util.List");
            Check.due("import of " + found.group(1), isFine ? 1 : 0, 1);
        }
    }

    /** Methods stay within sixty lines and seven parameters. */
    private static void methods(String text) {
        int start = -1;
        int at = 0;
        int seen = 0;
        for (String line : text.split("\n")) {
            at++;
            String trimmed = line.trim();
            boolean isHead = line.matches("( {4}| {8})[A-Za-z].*\\)? \\{") && line.contains("(")
                && !trimmed.matches("(if|for|while|switch|else|do)\\b.*");
            if (isHead) {
                start = at;
                seen++;
                Check.due("parameters of " + trimmed, trimmed.split(",").length <= 7 ? 1 : 0, 1);
            }
            if (start != -1 && line.matches("( {4}| {8})\\}")) {
                Check.due("lines of the method at line " + start, at - start < 60 ? 1 : 0, 1);
            }
        }
        Check.due("methods were found", seen > 100 ? 1 : 0, 1);
    }
}
