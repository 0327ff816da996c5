import java.io.IOException;
import java.lang.reflect.Constructor;
import java.lang.reflect.Field;
import java.lang.reflect.Member;
import java.lang.reflect.Method;
import java.lang.reflect.Modifier;
import java.nio.file.Files;
import java.nio.file.Path;
import java.util.ArrayList;
import java.util.List;
import java.util.TreeSet;
import java.util.regex.Matcher;
import java.util.regex.Pattern;
import support.Check;

/** The public face against the document's, and the rules of LANGUAGE.md that can be seen from the outside. */
public final class FaceTest {
    public static void main(String[] args) throws IOException {
        Path root = Path.of(args.length > 0 ? args[0] : ".");
        Check.about("face");
        face(root);
        Check.about("members");
        members();
        Check.about("rules");
        rules(Files.readString(root.resolve("src/main/java/SorryPurses.java")));
        Check.end();
    }

    private static void face(Path root) throws IOException {
        String doc = Files.readString(root.resolve("../shared/DOC.md"));
        int from = doc.indexOf("public final class SorryPurses {");
        String code = doc.substring(from, doc.indexOf("```", from));
        TreeSet<String> want = new TreeSet<>();
        Matcher m = Pattern.compile("public (int|long) (\\w+)\\(([^)]*)\\)( throws [^;]+)?;").matcher(code);
        while (m.find()) {
            String types = m.group(3).replaceAll("(int|long) \\w+", "$1").replace(" ", "");
            String thrown = m.group(4) == null ? "" : m.group(4).replace(" ", "").substring("throws".length());
            want.add(m.group(1) + " " + m.group(2) + "(" + types + ") " + thrown);
        }
        Check.due("methods of the document", 46, want.size());
        TreeSet<String> got = new TreeSet<>();
        for (Method method : SorryPurses.class.getDeclaredMethods()) {
            if (Modifier.isPublic(method.getModifiers())) {
                got.add(shape(method));
            }
        }
        Check.due("the methods", want.toString(), got.toString());
    }

    private static String shape(Method method) {
        List<String> types = new ArrayList<>();
        for (Class<?> type : method.getParameterTypes()) {
            types.add(type.getSimpleName());
        }
        List<String> thrown = new ArrayList<>();
        for (Class<?> type : method.getExceptionTypes()) {
            thrown.add(type.getSimpleName());
        }
        return method.getReturnType().getSimpleName() + " " + method.getName() + "(" + String.join(",", types) + ") "
                + String.join(",", thrown);
    }

    private static boolean isHidden(Member member) {
        return Modifier.isPrivate(member.getModifiers()) || member.isSynthetic();
    }

    private static void members() {
        TreeSet<String> open = new TreeSet<>();
        for (Method method : SorryPurses.class.getDeclaredMethods()) {
            if (Modifier.isPublic(method.getModifiers())) {
                open.add(method.getName());
            } else {
                Check.due("hidden: " + method.getName(), 1, isHidden(method) ? 1 : 0);
            }
        }
        for (Method method : SorryPurses.class.getDeclaredMethods()) {
            boolean twice = !Modifier.isPublic(method.getModifiers()) && open.contains(method.getName());
            Check.due("its name is no public one's: " + method.getName(), 0, twice ? 1 : 0);
        }
        for (Field field : SorryPurses.class.getDeclaredFields()) {
            Check.due("hidden: " + field.getName(), 1, isHidden(field) || field.getName().equals("NONE") ? 1 : 0);
        }
        Constructor<?>[] made = SorryPurses.class.getDeclaredConstructors();
        Check.due("constructors", 1, made.length);
        Class<?>[] inside = SorryPurses.class.getDeclaredClasses();
        Check.due("twelve classes at most", 1, inside.length + 1 <= 12 ? 1 : 0);
        for (Class<?> one : inside) {
            Check.due("static: " + one.getSimpleName(), 1, Modifier.isStatic(one.getModifiers()) ? 1 : 0);
            looseFields(one);
        }
        looseFields(SorryPurses.class);
    }

    private static void looseFields(Class<?> one) {
        int fields = 0;
        for (Field field : one.getDeclaredFields()) {
            boolean fixed = Modifier.isStatic(field.getModifiers());
            fields += fixed ? 0 : 1;
            Check.due("static and final: " + field.getName(), 1,
                    !fixed || Modifier.isFinal(field.getModifiers()) ? 1 : 0);
        }
        Check.due("twenty fields at most: " + one.getSimpleName(), 1, fields <= 20 ? 1 : 0);
        for (Method method : one.getDeclaredMethods()) {
            Check.due("seven parameters at most: " + method.getName(), 1, method.getParameterCount() <= 7 ? 1 : 0);
        }
    }

    private static void rules(String source) {
        String code = source.replaceAll("(?s)/\\*.*?\\*/", "").replaceAll("//[^\\n]*", "");
        String[] none = {"->", "::", "\\bsynchronized\\b", "\\bassert\\b", "\\bcatch\\b", "\\bfinally\\b", "static \\{",
            "\\bpackage\\b", "\\bwhile\\b", "\\bdouble\\b", "\\bfloat\\b", "\\bSystem\\.(?!arraycopy)", "Exact\\b",
            "\\bRandom\\b", "\\bThread\\b", "\\bpublic (?!static final int NONE|final class|SorryPurses\\(|int|long)"};
        for (String bad : none) {
            Matcher m = Pattern.compile(bad).matcher(code);
            Check.due("none of " + bad, 0, m.find() ? 1 : 0);
        }
        Matcher imports = Pattern.compile("import ([^;]+);").matcher(code);
        TreeSet<String> found = new TreeSet<>();
        while (imports.find()) {
            found.add(imports.group(1));
        }
        Check.due("imports", "[java.util.Arrays, java.util.NoSuchElementException]", found.toString());
        for (int i = 0; i < source.length(); i++) {
            if (source.charAt(i) > 126) {
                Check.due("sign at " + i, 0, source.charAt(i));
            }
        }
        library(code);
        longMethods(source);
    }

    /** Rule 4: of the library's classes only the functions that it lists, none of their constants. */
    private static void library(String code) {
        List<String> listed = List.of("Integer.bitCount(", "Math.max(", "Math.min(", "Arrays.fill(",
                "System.arraycopy(");
        String classes = "Integer|Long|Math|Arrays|System|Character|String|List";
        Matcher m = Pattern.compile("\\b(" + classes + ")\\.(\\w+\\(?)").matcher(code);
        while (m.find()) {
            Check.due("of the library: " + m.group(), 1, listed.contains(m.group()) ? 1 : 0);
        }
    }

    /** A method begins with a line that ends with an open brace, and ends at the brace below its first letter. */
    private static void longMethods(String source) {
        String[] lines = source.split("\n");
        Pattern head = Pattern.compile("( +)(?!.*\\bclass\\b)[\\w ]*\\b\\w+\\([^;]*\\{");
        for (int i = 0; i < lines.length; i++) {
            Matcher m = head.matcher(lines[i]);
            if (m.matches() && !lines[i].matches(" *(if|for|switch|while|\\}).*")) {
                int end = i;
                while (end < lines.length && !lines[end].equals(m.group(1) + "}")) {
                    end++;
                }
                Check.due("sixty lines at most: " + lines[i].trim(), 1, end - i <= 60 ? 1 : 0);
            }
        }
    }
}
