import java.lang.reflect.Field;
import java.lang.reflect.Member;
import java.lang.reflect.Method;
import java.lang.reflect.Modifier;
import java.nio.file.Files;
import java.nio.file.Path;
import java.util.Set;
import java.util.TreeSet;
import java.util.regex.Matcher;
import java.util.regex.Pattern;

/** The public face is the document's and no more; the source keeps clear of what LANGUAGE.md rules out. */
public final class FaceTest {
    private static final String[] RULED_OUT = {
        "throw", "throws", "try", "catch", "finally", "synchronized", "assert", "import", "package", "protected",
        "var", "record", "Exact", "System.out", "hashCode", "Object"
    };

    public static void main(String[] args) throws Exception {
        members();
        if (args.length > 0) {
            source(Files.readString(Path.of(args[0])));
        }
        Check.end("FaceTest");
    }

    private static void members() {
        Class<SpiderLoom> c = SpiderLoom.class;
        Check.holds("public final", Modifier.isPublic(c.getModifiers()) && Modifier.isFinal(c.getModifiers()));
        Check.due("constructors", c.getDeclaredConstructors().length, 1);
        Set<String> got = new TreeSet<>();
        Set<String> names = new TreeSet<>();
        for (Method m : c.getDeclaredMethods()) {
            if (isOpen(m)) {
                String types = java.util.Arrays.toString(m.getParameterTypes());
                got.add(m.getReturnType() + " " + m.getName() + "(" + types.substring(1, types.length() - 1) + ")");
                names.add(m.getName());
                Check.due(m.getName() + " static", m.getModifiers() & Modifier.STATIC, 0);
            }
        }
        Set<String> want = new TreeSet<>(Set.of(Face.CALLS));
        Check.holds("the face is the document's: " + got, got.equals(want));
        for (Method m : c.getDeclaredMethods()) {
            Check.holds(m.getName() + " private beside a public one", isOpen(m) || !names.contains(m.getName()));
        }
        for (Field f : c.getDeclaredFields()) {
            boolean told = Set.of("NONE", "BAD", "NOT", "FULL").contains(f.getName());
            Check.holds("field " + f.getName(), isOpen(f) == told);
            Check.holds("static but not final: " + f.getName(),
                !Modifier.isStatic(f.getModifiers()) || Modifier.isFinal(f.getModifiers()));
        }
        for (Class<?> inside : c.getDeclaredClasses()) {
            Check.holds("static " + inside.getName(), Modifier.isStatic(inside.getModifiers()));
        }
        Check.due("NONE", SpiderLoom.NONE, -1);
        Check.due("BAD", SpiderLoom.BAD, -2);
        Check.due("NOT", SpiderLoom.NOT, -3);
        Check.due("FULL", SpiderLoom.FULL, -4);
    }

    private static boolean isOpen(Member m) {
        return !Modifier.isPrivate(m.getModifiers()) && !m.isSynthetic();
    }

    private static void source(String text) {
        String code = text.replaceAll("(?s)/\\*.*?\\*/", " ").replaceAll("//[^\n]*", " ");
        for (String word : RULED_OUT) {
            Matcher at = Pattern.compile("\\b" + Pattern.quote(word) + "\\b").matcher(code);
            Check.holds("the source has " + word, !at.find());
        }
        Check.holds("no lambda and no method reference", !code.contains("->") && !code.contains("::"));
    }
}
