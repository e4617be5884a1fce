import java.lang.reflect.Constructor;
import java.lang.reflect.Field;
import java.lang.reflect.Member;
import java.lang.reflect.Method;
import java.lang.reflect.Modifier;
import java.nio.charset.StandardCharsets;
import java.nio.file.Files;
import java.nio.file.Path;
import java.util.ArrayList;
import java.util.List;
import java.util.Set;
import java.util.TreeSet;
import java.util.regex.Matcher;
import java.util.regex.Pattern;

/** The rules of LANGUAGE.md that can be looked at from outside, and the face of the class. */
public final class LanguageTest {
    private static final Path SOURCE = Path.of("src/main/java/BellPullHouse.java");
    private static final Path DOCUMENT = Path.of("../shared/DOC.md");
    private static int wrong = 0;

    public static void main(String[] args) throws Exception {
        String text = Files.readString(SOURCE, StandardCharsets.UTF_8);
        for (int i = 0; i < text.length(); i++) {
            must(text.charAt(i) < 128, "a sign above 127 at " + i);
        }
        face();
        classes();
        words(text);
        methods(text);
        System.out.println(wrong == 0 ? "the language is kept" : wrong + " rules are broken");
        if (wrong != 0) {
            System.exit(1);
        }
    }

    private static void must(boolean is, String what) {
        if (!is) {
            wrong++;
            System.out.println(what);
        }
    }

    /** Rule 1: just the members of the document are seen. */
    private static void face() throws Exception {
        String doc = Files.readString(DOCUMENT, StandardCharsets.UTF_8);
        doc = doc.substring(doc.indexOf("```java"), doc.indexOf("}", doc.indexOf("```java")));
        Set<String> due = new TreeSet<>();
        Matcher m = Pattern.compile("public (?:static final )?(\\w+) ?(\\w*)(?: = -1)?(?:\\(([^)]*)\\))?;").matcher(doc);
        while (m.find()) {
            String parameters = m.group(3) == null ? "" : m.group(3).replaceAll("(\\w+) \\w+", "$1").replace(" ", "");
            due.add(m.group(1) + " " + m.group(2) + "(" + parameters + ")");
        }
        Set<String> seen = new TreeSet<>();
        Set<String> names = new TreeSet<>();
        for (Method x : BellPullHouse.class.getDeclaredMethods()) {
            if (isSeen(x)) {
                seen.add(x.getReturnType() + " " + x.getName() + "(" + parameters(x.getParameterTypes()) + ")");
                must(Modifier.isPublic(x.getModifiers()), "not public: " + x);
                names.add(x.getName());
            }
        }
        for (Constructor<?> x : BellPullHouse.class.getDeclaredConstructors()) {
            seen.add("BellPullHouse (" + parameters(x.getParameterTypes()) + ")");
            must(Modifier.isPublic(x.getModifiers()), "not public: " + x);
        }
        for (Field x : BellPullHouse.class.getDeclaredFields()) {
            if (isSeen(x)) {
                seen.add(x.getType() + " " + x.getName() + "()");
            }
        }
        must(due.size() == 56, "the document's face has " + due.size());
        must(seen.equals(due), "the face is " + seen + ", due is " + due);
        must(Modifier.isFinal(BellPullHouse.class.getModifiers()), "the class is final");
        List<Class<?>> all = new ArrayList<>(List.of(BellPullHouse.class.getDeclaredClasses()));
        all.add(BellPullHouse.class);
        for (Class<?> c : all) {
            for (Method x : c.getDeclaredMethods()) {
                boolean isFace = c == BellPullHouse.class && isSeen(x);
                must(isFace || !names.contains(x.getName()), "bears a public name: " + x);
                must(x.getParameterCount() <= 7, "more than seven parameters: " + x);
            }
        }
    }

    private static boolean isSeen(Member x) {
        return !Modifier.isPrivate(x.getModifiers()) && !x.isSynthetic();
    }

    private static String parameters(Class<?>[] types) {
        List<String> names = new ArrayList<>();
        for (Class<?> t : types) {
            names.add(t.getName());
        }
        return String.join(",", names);
    }

    /** Rules 2, 5 and 11: classes inside are static; static fields are constants; few fields each. */
    private static void classes() {
        List<Class<?>> all = new ArrayList<>(List.of(BellPullHouse.class.getDeclaredClasses()));
        for (Class<?> c : all) {
            must(Modifier.isStatic(c.getModifiers()) && Modifier.isPrivate(c.getModifiers()), "not private static: " + c);
        }
        all.add(BellPullHouse.class);
        must(all.size() <= 12, "more than twelve classes");
        for (Class<?> c : all) {
            int fields = 0;
            for (Field x : c.getDeclaredFields()) {
                if (!Modifier.isStatic(x.getModifiers())) {
                    fields++;
                } else {
                    must(Modifier.isFinal(x.getModifiers()), "a static field that is not final: " + x);
                    must(x.getType().isPrimitive() || x.getType() == String.class, "a static field that is no constant: " + x);
                }
            }
            must(fields <= 22, c + " has " + fields + " fields");
        }
    }

    /** Rules 3, 4 and 6: words that must not stand in the code. */
    private static void words(String text) {
        String code = text.replaceAll("(?s)/\\*.*?\\*/", "").replaceAll("//[^\n]*", "");
        must(!Pattern.compile("\" *\\+|\\+ *\"").matcher(code).find(), "texts are joined by +");
        code = code.replaceAll("\"[^\"\n]*\"", "\"\"");
        String[] none = {"throw", "throws", "try", "catch", "finally", "synchronized", "assert", "var", "package",
            "double", "float", "Object", "HashMap", "Map", "Set", "Optional", "Stream", "native", "volatile",
            "transient", "goto", "instanceof"};
        for (String w : none) {
            must(!Pattern.compile("\\b" + w + "\\b").matcher(code).find(), "the word " + w);
        }
        must(!code.contains("->") && !code.contains("::"), "a lambda or a method reference");
        must(!code.contains("Exact"), "a function whose name ends in Exact");
        Matcher imports = Pattern.compile("import ([^;]*);").matcher(code);
        while (imports.find()) {
            must(Set.of("java.util.Arrays", "java.util.ArrayList", "java.util.List").contains(imports.group(1)),
                    "import " + imports.group(1));
        }
        Matcher calls = Pattern.compile("\\b(Arrays|Math|Integer|Long|System|String|Character)\\.(\\w+)").matcher(code);
        while (calls.find()) {
            String call = calls.group(1) + "." + calls.group(2);
            must(Set.of("Arrays.fill", "Math.min", "Math.max", "Integer.bitCount", "System.arraycopy").contains(call), call);
        }
        Matcher made = Pattern.compile("\\bnew (\\w+)(\\[)?").matcher(code);
        while (made.find()) {
            int line = lineOf(code, made.start());
            String whole = code.split("\n", -1)[line];
            boolean isRow = whole.contains("final") || whole.contains("] = new");
            must(isRow, "made outside of a constructor: " + whole.trim());
        }
    }

    private static int lineOf(String text, int place) {
        return (int) text.substring(0, place).chars().filter(c -> c == '\n').count();
    }

    /** Rule 11: methods stay short. */
    private static void methods(String text) {
        String[] lines = text.split("\n");
        int begin = -1;
        String end = "";
        for (int i = 0; i < lines.length; i++) {
            must(lines[i].length() <= 130, "a long line: " + (i + 1));
            boolean opens = lines[i].matches("( {4}| {8})(public |private |static |final )*[\\w\\[\\]]+( \\w+)?\\([^;]*\\) \\{");
            if (begin < 0 && opens) {
                begin = i;
                end = lines[i].replaceAll("\\S.*", "}");
            } else if (begin >= 0 && lines[i].equals(end)) {
                must(i - begin <= 60, "a long method at line " + (begin + 1));
                begin = -1;
            }
        }
    }
}
