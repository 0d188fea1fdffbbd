import java.io.IOException;
import java.lang.reflect.Constructor;
import java.lang.reflect.Field;
import java.lang.reflect.Method;
import java.lang.reflect.Modifier;
import java.nio.file.Files;
import java.nio.file.Path;
import java.util.Arrays;
import java.util.HashSet;
import java.util.Set;
import java.util.TreeSet;
import java.util.regex.Matcher;
import java.util.regex.Pattern;

/** The face is the document's and nothing more, and the source keeps to what can be seen of LANGUAGE.md. */
public final class FaceTest {
    private static final String[] FACE = {
        "int feed(int,int,int,int,int)", "int text(int)", "int fault(int)", "int named(int,int)", "int house(int,int)",
        "int kind(int,int)", "int weather(int)", "long law(int,int,int)", "int blind(int)", "boolean send(int)",
        "int lend(int,int,int)", "int go(int)", "int ahead(int,int,int)", "int sold(int)", "int credit(int)",
        "int plan(int,int)", "int share(int,int,int,int)", "long waits(int,int)", "int came(int,int,int)",
        "long likely(int,int,int)", "int rests(int,int,int)", "int rest(int,int,int,int)", "int richest()",
        "int leave(int,int)", "int blinds(int,int)", "int among(int)", "int rescue()", "int termIn()", "int often(int,int)",
        "int owes(int)", "int have(int)", "int dearest()", "int note(int,int,int,boolean)", "int strike(int)",
        "boolean known(int)", "int fits(int)", "int ask(int,int)", "int chance(int,int,int)", "int tried(int,int,int)",
        "int undo()", "int keep()", "int back()", "int count(int)"};
    private static final String[] NOT_IN_IT = {"->", "::", "\\btry\\b", "\\bcatch\\b", "\\bfinally\\b", "\\bassert\\b", "\\bsynchronized\\b",
        "Exact\\b", "\\bstatic\\s*\\{", "\" \\+", "\\+ \"", "\\bdouble\\b", "\\bfloat\\b", "\\bnull\\b", "\\bSystem\\.", "\\bpackage\\b",
        "\\bRandom\\b", "\\bThread\\b", "\\bString\\.", "\\binstanceof\\b", "@"};

    private static int wrong = 0;

    public static void main(String[] args) throws IOException {
        face();
        String source = Files.readString(Path.of("src/main/java/SunBills.java"));
        words(source);
        methods(source);
        System.out.println("face: " + (wrong == 0 ? "as the document says" : wrong + " wrong"));
        if (wrong != 0) {
            System.exit(1);
        }
    }

    private static void must(boolean so, String what) {
        if (!so) {
            wrong++;
            System.out.println("face: " + what);
        }
    }

    private static void face() {
        Set<String> due = new TreeSet<>(Arrays.asList(FACE));
        Set<String> open = new TreeSet<>();
        Set<String> openNames = new HashSet<>();
        for (Method m : SunBills.class.getDeclaredMethods()) {
            if (Modifier.isPublic(m.getModifiers()) && !Modifier.isStatic(m.getModifiers())) {
                StringBuilder types = new StringBuilder();
                for (Class<?> type : m.getParameterTypes()) {
                    types.append(types.length() == 0 ? "" : ",").append(type.getSimpleName());
                }
                open.add(m.getReturnType().getSimpleName() + " " + m.getName() + "(" + types + ")");
                openNames.add(m.getName());
            } else {
                must(Modifier.isPrivate(m.getModifiers()), m + " isn't private");
            }
            must(m.getParameterCount() <= 7, m + " has too many parameters");
        }
        must(open.equals(due), "methods are " + open);
        for (Field f : SunBills.class.getDeclaredFields()) {
            must(Modifier.isPrivate(f.getModifiers()) || f.getName().equals("NONE"), f + " isn't private");
        }
        for (Constructor<?> c : SunBills.class.getDeclaredConstructors()) {
            must(Modifier.isPublic(c.getModifiers()) && c.getParameterCount() == 0, "a constructor too many");
        }
        must(Modifier.isFinal(SunBills.class.getModifiers()), "the class isn't final");
        Class<?>[] inside = SunBills.class.getDeclaredClasses();
        must(inside.length <= 12, inside.length + " classes inside");
        for (Class<?> c : inside) {
            must(Modifier.isStatic(c.getModifiers()) && Modifier.isPrivate(c.getModifiers()), c + " isn't private and static");
            int fields = 0;
            for (Field f : c.getDeclaredFields()) {
                fields += Modifier.isStatic(f.getModifiers()) ? 0 : 1;
                must(!Modifier.isStatic(f.getModifiers()) || Modifier.isFinal(f.getModifiers()), f + " is static and changes");
            }
            must(fields <= 20, c + " has " + fields + " fields");
            for (Method m : c.getDeclaredMethods()) {
                must(!openNames.contains(m.getName()), m + " bears the name of a public one");
                must(m.getParameterCount() <= 7, m + " has too many parameters");
            }
        }
        for (Method m : SunBills.class.getDeclaredMethods()) {
            must(Modifier.isPublic(m.getModifiers()) || !openNames.contains(m.getName()), m + " bears the name of a public one");
        }
    }

    private static void words(String source) {
        String bare = source.replaceAll("(?s)/\\*.*?\\*/", "").replaceAll("//[^\n]*", "");
        for (String pattern : NOT_IN_IT) {
            Matcher m = Pattern.compile(pattern).matcher(bare);
            must(!m.find(), "the source has " + pattern);
        }
        Matcher imports = Pattern.compile("import ([^;]*);").matcher(bare);
        while (imports.find()) {
            must(imports.group(1).equals("java.util.NoSuchElementException"), "imports " + imports.group(1));
        }
        for (char c : source.toCharArray()) {
            must(c == '\n' || c >= ' ' && c <= '~', "a sign " + (int) c);
        }
    }

    /** Methods of some sixty lines at most: by the depth of their braces' blanks. */
    private static void methods(String source) {
        String[] lines = source.split("\n");
        int from = -1;
        for (int i = 0; i < lines.length; i++) {
            if (lines[i].matches("( {4}| {8})[a-zA-Z].*\\(.*\\).* \\{")) {
                from = i;
            } else if (from >= 0 && lines[i].matches("( {4}| {8})\\}")) {
                must(i - from < 60, "a method of " + (i - from) + " lines at " + (from + 1));
                from = -1;
            }
            must(lines[i].length() <= 160, "a long line at " + (i + 1));
        }
    }
}
