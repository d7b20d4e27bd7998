import java.io.IOException;
import java.lang.reflect.Constructor;
import java.lang.reflect.Field;
import java.lang.reflect.Method;
import java.lang.reflect.Modifier;
import java.nio.file.Files;
import java.nio.file.Path;
import java.util.List;
import java.util.Set;
import java.util.TreeSet;
import java.util.regex.Matcher;
import java.util.regex.Pattern;

/** The document's face, and what of LANGUAGE.md can be seen from the source and the compiled class. */
public final class FaceTest {
    private static final List<String> FACE = List.of("boolean night(int,int,int,int)", "boolean home(int,int,boolean)",
        "boolean tie(int,int,int)", "int sum(int,int,int,int,int,int)", "int feed(int,int,int,int,int)", "boolean end(int)",
        "int text(int,int)", "int fault(int)", "int of(int,int,int)", "int decides(int,int,int)", "long tax(int,int)",
        "long takes(int,int,int,int)", "long owes(int,int)", "long edge(int,int,int,int)", "int hangs(int,int)", "int move(int,int)",
        "long best(int,int)", "int turning(int,int,int)", "long sly(int)", "int word(int,int,int,int)", "int mend()",
        "int round(int,int,int,int)", "int answer(int,int,int,long)", "int judged()", "int look(int)");
    private static final Pattern FORBIDDEN = Pattern.compile(
        "\\b(throw|try|catch|synchronized|assert|import|package|volatile|transient|native|System\\.(?!arraycopy)|Thread|->)|::|->");

    public static void main(String[] args) throws IOException {
        face();
        members();
        nested();
        source(Files.readString(Path.of("src/main/java/FiveLands.java")));
        Tests.finish();
    }

    private static void face() {
        Set<String> due = new TreeSet<>(FACE);
        Set<String> found = new TreeSet<>();
        for (Method m : FiveLands.class.getDeclaredMethods()) {
            if (Modifier.isPublic(m.getModifiers())) {
                StringBuilder b = new StringBuilder(m.getReturnType() + " " + m.getName() + "(");
                for (Class<?> p : m.getParameterTypes()) {
                    b.append(b.charAt(b.length() - 1) == '(' ? "" : ",").append(p);
                }
                found.add(b + ")");
            }
        }
        Tests.yes("the face " + found, due.equals(found));
        Constructor<?>[] made = FiveLands.class.getDeclaredConstructors();
        Tests.due("constructors", 1, made.length);
        Tests.yes("public one without arguments", Modifier.isPublic(made[0].getModifiers()) && made[0].getParameterCount() == 0);
        Tests.yes("final", Modifier.isFinal(FiveLands.class.getModifiers()) && Modifier.isPublic(FiveLands.class.getModifiers()));
    }

    private static void members() {
        Set<String> names = new TreeSet<>();
        for (String s : FACE) {
            names.add(s.substring(s.indexOf(' ') + 1, s.indexOf('(')));
        }
        for (Method m : FiveLands.class.getDeclaredMethods()) {
            int mod = m.getModifiers();
            Tests.yes("private or of the face: " + m, Modifier.isPublic(mod) || Modifier.isPrivate(mod) && !names.contains(m.getName()));
        }
        int fields = 0;
        for (Field f : FiveLands.class.getDeclaredFields()) {
            int mod = f.getModifiers();
            Tests.yes("private or NONE: " + f, Modifier.isPrivate(mod) || f.getName().equals("NONE"));
            fields += Modifier.isStatic(mod) ? 0 : 1;
            staticFinal(f);
        }
        Tests.yes("some twenty fields: " + fields, fields <= 20);
    }

    private static void staticFinal(Field f) {
        if (Modifier.isStatic(f.getModifiers())) {
            Tests.yes("static is final: " + f, Modifier.isFinal(f.getModifiers()));
        }
    }

    private static void nested() {
        Class<?>[] inside = FiveLands.class.getDeclaredClasses();
        Tests.yes("some twelve classes: " + (inside.length + 1), inside.length + 1 <= 12);
        for (Class<?> c : inside) {
            Tests.yes("static: " + c, Modifier.isStatic(c.getModifiers()));
            int fields = 0;
            for (Field f : c.getDeclaredFields()) {
                fields += Modifier.isStatic(f.getModifiers()) ? 0 : 1;
                staticFinal(f);
            }
            Tests.yes("some twenty fields in " + c + ": " + fields, fields <= 20);
            for (Method m : c.getDeclaredMethods()) {
                Tests.yes("at most seven parameters: " + m, m.getParameterCount() <= 7);
                boolean own = Set.of("equals", "hashCode", "toString").contains(m.getName());
                Tests.no("own equals and its like: " + m, own);
            }
        }
    }

    private static void source(String whole) {
        String code = whole.replaceAll("(?s)/\\*.*?\\*/", "").replaceAll("//[^\n]*", "").replaceAll("\"[^\"\n]*\"", "\"\"");
        Matcher m = FORBIDDEN.matcher(code);
        Tests.no("a word that the rules leave out", m.find());
        Tests.no("texts joined by +", code.contains("\"\" +") || code.contains("+ \"\""));
        Tests.no("a sign above 127", whole.chars().anyMatch(c -> c > 127));
        for (String line : code.split("\n")) {
            boolean makes = line.contains(" new ") && line.startsWith("            ") && !line.contains("[i] = new") && !line.contains("[l] = new")
                && !line.contains("[p] = new") && !line.contains("[y] = new");
            Tests.no("something made outside a constructor: " + line.trim(), makes);
        }
        int lines = 0;
        for (String line : whole.split("\n")) {
            lines = line.matches("( {4}| {8})[A-Za-z].*\\) \\{") ? 0 : lines + 1;
            Tests.no("a long method", line.matches("( {4}| {8})\\}") && lines > 60 && line.startsWith("        }"));
        }
    }
}
