import java.io.IOException;
import java.lang.reflect.Field;
import java.lang.reflect.Method;
import java.lang.reflect.Modifier;
import java.nio.file.Files;
import java.nio.file.Path;
import java.util.TreeSet;
import java.util.regex.Pattern;

/** The public face as the document tells it, and what LANGUAGE.md rules out of the source. */
public final class FaceTest {
    private static final String[] FACE = {
        "int letters(long)", "int blank()", "int fault()", "int law()", "int lawTold(int)",
        "int person(int)", "int know(int,int,boolean)", "int like(int,int,int)", "int about(int,int)",
        "int owes(int,int)", "int rest(int)", "int gift(int,int)", "int told(int,int)", "int as(int,int)",
        "int may(int)", "int give(int,int)", "int years(int)", "int ways(int,int)", "int soonest(int)",
        "long likely(int,int,int)", "int traps()", "int round(int)", "int stranger(int,int,int)",
        "int drawn(int,int,int)", "int open(int,int)", "int write(int,int)", "int filled()", "int sure(int)",
        "int image()", "int restore()", "int count(int)", "long digest()"};
    private static final String[] RULED_OUT = {"throw", "try", "catch", "synchronized", "assert", "->", "::",
        "import", "package", "Exact", "System.nanoTime", "System.out", "Random", "static \\{", "@"};
    private static final Check check = new Check("FaceTest");

    public static void main(String[] args) throws IOException {
        constants();
        members();
        namesOfPrivateMethods(GivenGoesOn.class);
        sizes(GivenGoesOn.class);
        check.due("some twelve classes", GivenGoesOn.class.getDeclaredClasses().length <= 11 ? 1 : 0, 1);
        for (Class<?> inside : GivenGoesOn.class.getDeclaredClasses()) {
            check.due(inside + " is static", Modifier.isStatic(inside.getModifiers()) ? 1 : 0, 1);
            check.due(inside + " is not public", Modifier.isPublic(inside.getModifiers()) ? 1 : 0, 0);
            namesOfPrivateMethods(inside);
            sizes(inside);
        }
        source();
        check.end();
    }

    private static void constants() {
        check.due("NONE", GivenGoesOn.NONE, -1);
        check.due("UNKNOWN", GivenGoesOn.UNKNOWN, -101);
        check.due("OUTSIDE", GivenGoesOn.OUTSIDE, -102);
        check.due("STATE", GivenGoesOn.STATE, -103);
        check.due("FULL", GivenGoesOn.FULL, -104);
    }

    private static String told(Method m) {
        StringBuilder text = new StringBuilder().append(m.getReturnType()).append(' ').append(m.getName()).append('(');
        for (Class<?> type : m.getParameterTypes()) {
            if (text.charAt(text.length() - 1) != '(') text.append(',');
            text.append(type);
        }
        return text.append(')').toString();
    }

    private static void members() {
        TreeSet<String> want = new TreeSet<>();
        for (String one : FACE) want.add(one);
        TreeSet<String> got = new TreeSet<>();
        for (Method m : GivenGoesOn.class.getDeclaredMethods()) {
            if (!Modifier.isPrivate(m.getModifiers())) got.add(told(m));
        }
        check.due("the face is " + got, got.equals(want) ? 1 : 0, 1);
        int open = 0;
        for (Field f : GivenGoesOn.class.getDeclaredFields()) {
            if (!Modifier.isPrivate(f.getModifiers())) open++;
        }
        check.due("open fields", open, 5);
        check.due("constructors", GivenGoesOn.class.getConstructors().length, 1);
        check.due("final", Modifier.isFinal(GivenGoesOn.class.getModifiers()) ? 1 : 0, 1);
    }

    private static void namesOfPrivateMethods(Class<?> type) {
        for (Method m : type.getDeclaredMethods()) {
            if (type == GivenGoesOn.class && Modifier.isPublic(m.getModifiers())) continue;
            for (String one : FACE) {
                boolean same = one.contains(" " + m.getName() + "(");
                check.due(type + "." + m.getName() + " bears a public name", same ? 1 : 0, 0);
            }
        }
    }

    /** LANGUAGE.md's rules 5 and 11, as far as they are seen from outside. */
    private static void sizes(Class<?> type) {
        int fields = 0;
        for (Field f : type.getDeclaredFields()) {
            boolean isStatic = Modifier.isStatic(f.getModifiers());
            if (!isStatic) fields++;
            check.due(type + "." + f.getName() + " is final", !isStatic || Modifier.isFinal(f.getModifiers()) ? 1 : 0, 1);
        }
        check.due("some twenty fields of " + type, fields <= 20 ? 1 : 0, 1);
        for (Method m : type.getDeclaredMethods()) {
            check.due("seven parameters of " + type + "." + m.getName(), m.getParameterCount() <= 7 ? 1 : 0, 1);
        }
    }

    private static void source() throws IOException {
        String text = Files.readString(Path.of("src/main/java/GivenGoesOn.java"))
            .replaceAll("(?s)/\\*.*?\\*/", "").replaceAll("//[^\n]*", "");
        for (String word : RULED_OUT) {
            String sought = Character.isLetter(word.charAt(0)) ? "\\b" + word + (word.endsWith("{") ? "" : "\\b") : word;
            boolean there = Pattern.compile(sought).matcher(text).find();
            check.due("the source has " + word, there ? 1 : 0, 0);
        }
    }
}
