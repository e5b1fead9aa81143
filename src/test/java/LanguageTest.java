import java.lang.reflect.Field;
import java.lang.reflect.Method;
import java.lang.reflect.Modifier;
import java.nio.file.Files;
import java.nio.file.Path;
import java.util.Set;
import java.util.TreeSet;
import java.util.regex.Matcher;
import java.util.regex.Pattern;

/** The rules of LANGUAGE.md that can be seen from the text and from the class. Runs in the project's folder. */
public final class LanguageTest {
    private static final String[] FACE = {
        "int feed(int,int,int,int,int)", "int tell(int)", "int fault(int)", "int split(int)", "int start(int)",
        "int broken(int,int,int)", "int mended()", "int undo()", "int go(int)", "int again()", "int car(int,int)",
        "int crossing(int,int)", "int section(int,int)", "int event(int,int)", "int need(int,int)", "int pass(int,int,int)",
        "int open(int,int)", "int window(int,int,int)", "int end()", "int where(int,int)", "int waits(int)", "int stretch(int)",
        "int fewest()", "int best(int,int)", "int bestStart(int,int)", "int harm(int,int,int)", "int smooth(int)",
        "int held(int,int)", "int slowest(int)", "int longest(int)", "int marshals(int)", "long price(long,long)", "int count(int)",
    };
    private static final String[] FORBIDDEN = {
        "\\bimport\\b", "\\bpackage\\b", "\\bthrow\\b", "\\bthrows\\b", "\\btry\\b", "\\bcatch\\b", "\\bfinally\\b",
        "\\bsynchronized\\b", "\\bassert\\b", "->", "::", "static\\s*\\{", "Exact\\b", "\\bvar\\b", "\\bSystem\\.(?!arraycopy)",
        "\\bThread\\b", "\\bRandom\\b", "\\bObject\\b", "\\.hashCode", "\\.toString", "\\bprotected\\b", "\\bdouble\\b", "\\bfloat\\b",
    };

    private static void face(Checks checks) {
        Set<String> due = new TreeSet<>(Set.of(FACE));
        Set<String> got = new TreeSet<>();
        Set<String> names = new TreeSet<>();
        for (Method m : ConvoyTown.class.getDeclaredMethods()) {
            if (Modifier.isPublic(m.getModifiers())) {
                got.add(described(m));
                names.add(m.getName());
            } else {
                checks.due(m + " is private", Modifier.isPrivate(m.getModifiers()) ? 1 : 0, 1);
            }
        }
        System.out.println(due.equals(got) ? "the face is the document's" : "the face is " + got);
        checks.due("the face is the document's", due.equals(got) ? 1 : 0, 1);
        checks.due("one constructor", ConvoyTown.class.getDeclaredConstructors().length, 1);
        checks.due("final", Modifier.isFinal(ConvoyTown.class.getModifiers()) ? 1 : 0, 1);
        for (Field f : ConvoyTown.class.getDeclaredFields()) {
            boolean constant = f.getName().equals("NONE") || f.getName().equals("GREAT");
            checks.due(f + " is private", Modifier.isPrivate(f.getModifiers()) ? 0 : 1, constant ? 1 : 0);
        }
        classes(checks, names);
    }

    private static void classes(Checks checks, Set<String> names) {
        Class<?>[] inside = ConvoyTown.class.getDeclaredClasses();
        checks.due("at most twelve classes", inside.length + 1 <= 12 ? 1 : 0, 1);
        for (Class<?> c : inside) {
            checks.due(c + " is static", Modifier.isStatic(c.getModifiers()) ? 1 : 0, 1);
            int fields = 0;
            for (Field f : c.getDeclaredFields()) {
                fields += Modifier.isStatic(f.getModifiers()) ? 0 : 1;
                boolean ok = !Modifier.isStatic(f.getModifiers()) || Modifier.isFinal(f.getModifiers());
                checks.due(f + " is final if static", ok ? 1 : 0, 1);
            }
            checks.due(c + " has at most twenty fields", fields <= 20 ? 1 : 0, 1);
            for (Method m : c.getDeclaredMethods()) {
                checks.due(m + " has a name of its own", names.contains(m.getName()) ? 1 : 0, 0);
                checks.due(m + " has at most seven parameters", m.getParameterCount() <= 7 ? 1 : 0, 1);
            }
        }
    }

    private static String described(Method m) {
        StringBuilder b = new StringBuilder(m.getReturnType().getName()).append(' ').append(m.getName()).append('(');
        for (int i = 0; i < m.getParameterCount(); i++) {
            b.append(i == 0 ? "" : ",").append(m.getParameterTypes()[i].getName());
        }
        return b.append(')').toString();
    }

    private static void words(Checks checks, String source) {
        String code = source.replaceAll("(?s)/\\*.*?\\*/", "").replaceAll("//[^\n]*", "").replaceAll("\"[^\"\n]*\"", "\"\"");
        for (String pattern : FORBIDDEN) {
            Matcher m = Pattern.compile(pattern).matcher(code);
            checks.due("no " + pattern, m.find() ? 1 : 0, 0);
        }
        for (int i = 0; i < source.length(); i++) {
            if (source.charAt(i) > 126) {
                checks.due("a sign above 126 at " + i, 1, 0);
            }
        }
    }

    /** Methods begin at four or eight blanks, and end at a brace with as many. */
    private static void lengths(Checks checks, String source) {
        String[] lines = source.split("\n");
        for (int i = 0; i < lines.length; i++) {
            Matcher m = Pattern.compile("^( {4}| {8})(?! )[a-zA-Z].*\\) \\{$").matcher(lines[i]);
            if (m.find()) {
                int end = i;
                while (!lines[end].equals(m.group(1) + "}")) {
                    end++;
                }
                checks.due("at most sixty lines: " + lines[i].trim(), end - i + 1 <= 60 ? 1 : 0, 1);
            }
        }
    }

    public static void main(String[] args) throws Exception {
        Checks checks = new Checks();
        String source = Files.readString(Path.of("src/main/java/ConvoyTown.java"));
        face(checks);
        words(checks, source);
        lengths(checks, source);
        checks.finish();
    }
}
