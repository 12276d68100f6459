import java.lang.reflect.Constructor;
import java.lang.reflect.Field;
import java.lang.reflect.Method;
import java.lang.reflect.Modifier;
import java.nio.file.Files;
import java.nio.file.Path;
import java.util.ArrayList;
import java.util.Arrays;
import java.util.List;
import java.util.Set;
import java.util.TreeSet;
import java.util.regex.Matcher;
import java.util.regex.Pattern;

/** The rules of ../shared/LANGUAGE.md that can be seen in the source or by reflection, and the document's face. */
public final class LanguageTests {
    private static final Due DUE = new Due("LanguageTests");

    public static void main(String[] args) throws Exception {
        String source = Files.readString(Path.of(System.getProperty("project", "."), "src/main/java/BellBalance.java"));
        String code = bare(source);
        words(code);
        imports(code);
        face();
        ownClasses();
        methodsAreShort(code);
        DUE.end();
    }

    /* The source without comments, and with empty texts. */
    private static String bare(String source) {
        return source.replaceAll("(?s)/\\*.*?\\*/", " ").replaceAll("//[^\n]*", " ").replaceAll("\"(\\\\.|[^\"\\\\])*\"", "\"\"");
    }

    private static void words(String code) {
        for (String word : new String[] {"throw", "throws", "try", "catch", "finally", "synchronized", "assert", "package", "volatile", "native", "hashCode", "toString", "Thread", "Random", "nanoTime", "currentTimeMillis", "getClass"}) {
            DUE.holds("no word " + word, !Pattern.compile("\\b" + word + "\\b").matcher(code).find());
        }
        DUE.holds("no lambda", !code.contains("->"));
        DUE.holds("no method reference", !code.contains("::"));
        DUE.holds("no static block", !Pattern.compile("static\\s*\\{").matcher(code).find());
        DUE.holds("no Exact function", !Pattern.compile("\\w+Exact\\b").matcher(code).find());
        DUE.holds("signs 1 to 127", code.chars().allMatch(c -> c >= 1 && c <= 127));
    }

    private static void imports(String code) {
        Matcher imported = Pattern.compile("import\\s+([\\w.*]+);").matcher(code);
        while (imported.find()) {
            DUE.holds("import " + imported.group(1), Set.of("java.util.Arrays", "java.util.ArrayList", "java.util.List", "java.util.Iterator").contains(imported.group(1)));
        }
        Matcher library = Pattern.compile("\\b(System|Arrays|Math|Integer|Long)\\.(\\w+)").matcher(code);
        Set<String> fine = Set.of("System.arraycopy", "Arrays.fill", "Arrays.copyOf", "Arrays.copyOfRange", "Math.max", "Math.min", "Math.abs", "Integer.bitCount");
        while (library.find()) {
            DUE.holds("library " + library.group(), fine.contains(library.group()));
        }
    }

    private static void face() throws Exception {
        Class<?> c = BellBalance.class;
        DUE.holds("public and final", Modifier.isPublic(c.getModifiers()) && Modifier.isFinal(c.getModifiers()));
        Set<String> want = new TreeSet<>(Arrays.asList(
            "int row(int,int)", "int lay(int,int,int)", "int at(int,int)", "int tear(int)", "int copy(int,int,int,int,int)", "int mean(int)",
            "int text(int,int)", "int put(int,int,int)", "int fault(int)", "int tower(int)", "int bell(int,int)", "int mark(int,int)", "int damp(int)",
            "int stroke(int,int)", "int round(int)", "int mend(int)", "int undo(int)", "int keep(int)", "int on(int)",
            "int strikes(int,int)", "int stands(int)", "int raise(int,int)", "int ways(int,int)", "int arms(int,int,int,int)", "int hold(int,int)",
            "int drops(int)", "int back(int)", "int error(int)", "int heard(int,int)", "int even(int)", "int change(int,int)", "int orders()", "int late(int)",
            "int game(int,int)", "int first(int,int)", "int kinds(int,int)", "int damps(int,int)", "int heights(int,int)", "int broke(int,int)",
            "int odds(int,int,int,int)", "int mid(int,int,int,int)", "int lots(int,int)", "int asked()", "long upper()", "long lower()",
            "int count(int)", "int finding()", "int findings(int)", "long digest()"));
        Set<String> names = new TreeSet<>();
        Set<String> got = new TreeSet<>();
        for (Method m : c.getDeclaredMethods()) {
            if (Modifier.isPublic(m.getModifiers())) {
                got.add(told(m));
                names.add(m.getName());
            }
        }
        DUE.holds("the face is " + got, got.equals(want));
        for (Method m : c.getDeclaredMethods()) {
            if (!Modifier.isPublic(m.getModifiers()) && !m.isSynthetic()) {
                DUE.holds("private " + m.getName(), Modifier.isPrivate(m.getModifiers()));
                DUE.holds("name of a public one " + m.getName(), !names.contains(m.getName()));
            }
        }
        constants(c);
    }

    private static String told(Method m) {
        List<String> types = new ArrayList<>();
        for (Class<?> p : m.getParameterTypes()) {
            types.add(p.getName());
        }
        return m.getReturnType().getName() + " " + m.getName() + "(" + String.join(",", types) + ")";
    }

    private static void constants(Class<?> c) throws Exception {
        Set<String> publicOnes = new TreeSet<>();
        for (Field f : c.getDeclaredFields()) {
            if (Modifier.isPublic(f.getModifiers())) {
                publicOnes.add(f.getName() + f.getInt(null));
            } else {
                DUE.holds("private field " + f.getName(), Modifier.isPrivate(f.getModifiers()) || f.isSynthetic());
            }
            DUE.holds("static is final " + f.getName(), !Modifier.isStatic(f.getModifiers()) || Modifier.isFinal(f.getModifiers()));
        }
        DUE.holds("constants " + publicOnes, publicOnes.equals(new TreeSet<>(Arrays.asList("BAD-1", "FULL-2", "FINDING-3", "STATE-4", "SPENT-6", "NONE-9"))));
        Constructor<?>[] made = c.getDeclaredConstructors();
        DUE.holds("one public constructor", made.length == 1 && Modifier.isPublic(made[0].getModifiers()) && made[0].getParameterCount() == 0);
    }

    private static void ownClasses() {
        Class<?>[] own = BellBalance.class.getDeclaredClasses();
        DUE.holds("some twelve classes at most", own.length + 1 <= 12);
        for (Class<?> c : own) {
            DUE.holds("static " + c.getName(), Modifier.isStatic(c.getModifiers()) || c.isEnum() || c.isRecord());
            DUE.holds("not public " + c.getName(), !Modifier.isPublic(c.getModifiers()) && !Modifier.isProtected(c.getModifiers()));
            int fields = 0;
            for (Field f : c.getDeclaredFields()) {
                fields += Modifier.isStatic(f.getModifiers()) ? 0 : 1;
            }
            DUE.holds("fields of " + c.getName(), fields <= 20);
            for (Method m : c.getDeclaredMethods()) {
                DUE.holds("parameters of " + m.getName(), m.getParameterCount() <= 7);
            }
        }
    }

    private static void methodsAreShort(String code) {
        Matcher head = Pattern.compile("(?m)^ +(?:(?:public|private|static|final) )*[\\w\\[\\]]+ ?\\w*\\([^)]*\\) \\{$").matcher(code);
        int methods = 0;
        while (head.find()) {
            if (head.group().matches("(?s).*\\b(if|for|while|switch|else)\\b.*")) {
                continue;
            }
            methods++;
            int depth = 0;
            int lines = 0;
            for (int k = head.end() - 1; k < code.length(); k++) {
                char sign = code.charAt(k);
                depth += sign == '{' ? 1 : sign == '}' ? -1 : 0;
                lines += sign == '\n' ? 1 : 0;
                if (depth == 0) {
                    break;
                }
            }
            DUE.holds("short: " + head.group().trim(), lines <= 60);
        }
        DUE.holds("methods were found", methods >= 50);
    }
}
