import java.io.IOException;
import java.lang.reflect.Constructor;
import java.lang.reflect.Field;
import java.lang.reflect.Member;
import java.lang.reflect.Method;
import java.lang.reflect.Modifier;
import java.nio.file.Files;
import java.nio.file.Path;
import java.util.Set;
import java.util.TreeSet;
import java.util.regex.Matcher;
import java.util.regex.Pattern;

/** The public face, as the document has it, and what LANGUAGE.md forbids that can be read off. */
public final class FaceTest {
    private static final Path SOURCE = Path.of("src/main/java/FirstUmbrella.java");
    private static final String[] FACE = {
        "int write(int)", "int wipe()", "int fault()", "int town()", "int about(int)", "int walker(int,int)",
        "int need(int,int)", "int street(int,int)", "int open(int)", "int shut(int)", "int walk(int,boolean)",
        "int hour()", "int undo()", "int wet(int,int)", "int needs(int,int)", "int dry(int)", "int asked(int)",
        "int sent(int,int)", "int judge(int,long)", "int share(int,boolean)", "int feel(int,int,int)", "int unfeel()",
        "int may(int)", "int rests(int,int,int)", "int sudden(int,int,int,boolean)", "long seed(long)",
        "int weeks(int)", "int keep(int)", "int again(int)"
    };
    private static final String[] FORBIDDEN = {
        "\\bthrow\\b", "\\btry\\b", "\\bcatch\\b", "\\bsynchronized\\b", "\\bassert\\b", "->", "::", "\\brecord\\b",
        "\\bnative\\b", "\\bvolatile\\b", "Exact\\s*\\(", "\\bprotected\\b", "System\\.(?!arraycopy)", "\\bpackage\\b",
        "\\bimport (?!java\\.util\\.Arrays;)", "\\bwhile\\s*\\(true", "\\bRandom\\b", "\\bObject\\b", "\\bThread\\b",
        "\\bString\\.", "\\bInteger\\.(?!bitCount)", "\\bstatic \\{", "\\bhashCode\\b", "\\btoString\\b"
    };

    private FaceTest() {
    }

    public static void main(String[] args) throws IOException {
        constants();
        members();
        innerNames();
        shapes(FirstUmbrella.class);
        for (Class<?> inner : FirstUmbrella.class.getDeclaredClasses()) {
            shapes(inner);
        }
        sourceWords(Files.readString(SOURCE));
        methodLengths(Files.readString(SOURCE));
        Check.end();
    }

    private static void constants() {
        Check.due("UNKNOWN", FirstUmbrella.UNKNOWN, -1);
        Check.due("BAD", FirstUmbrella.BAD, -2);
        Check.due("LATE", FirstUmbrella.LATE, -3);
        Check.due("FULL", FirstUmbrella.FULL, -4);
        Check.due("NONE", FirstUmbrella.NONE, -9);
    }

    private static void members() {
        Class<FirstUmbrella> face = FirstUmbrella.class;
        Check.due("public and final", face.getModifiers() & (Modifier.PUBLIC | Modifier.FINAL),
            Modifier.PUBLIC | Modifier.FINAL);
        Set<String> fields = new TreeSet<>();
        for (Field field : face.getDeclaredFields()) {
            if (isSeen(field)) {
                fields.add(Modifier.toString(field.getModifiers()) + " " + field.getType() + " " + field.getName());
            }
        }
        String kind = "public static final int ";
        Set<String> due = Set.of(kind + "UNKNOWN", kind + "BAD", kind + "LATE", kind + "FULL", kind + "NONE");
        Check.due("constants seen", fields.toString(), new TreeSet<>(due).toString());
        Set<String> methods = new TreeSet<>();
        for (Method method : face.getDeclaredMethods()) {
            if (isSeen(method)) {
                methods.add(Modifier.toString(method.getModifiers()) + " " + told(method));
            }
        }
        Set<String> dueMethods = new TreeSet<>();
        for (String method : FACE) {
            dueMethods.add("public " + method);
        }
        Check.due("methods seen", methods.toString(), dueMethods.toString());
        Constructor<?>[] constructors = face.getDeclaredConstructors();
        Check.due("constructors", constructors.length, 1);
        Check.due("without arguments", constructors[0].getParameterCount(), 0);
        Check.due("it is public", constructors[0].getModifiers(), Modifier.PUBLIC);
    }

    private static boolean isSeen(Member member) {
        return !Modifier.isPrivate(member.getModifiers()) && !member.isSynthetic();
    }

    private static String told(Method method) {
        StringBuilder types = new StringBuilder();
        for (Class<?> type : method.getParameterTypes()) {
            types.append(types.length() == 0 ? "" : ",").append(type.getSimpleName());
        }
        return method.getReturnType().getSimpleName() + " " + method.getName() + "(" + types + ")";
    }

    private static void innerNames() {
        Set<String> names = new TreeSet<>();
        for (String method : FACE) {
            names.add(method.substring(method.indexOf(' ') + 1, method.indexOf('(')));
        }
        int classes = 1;
        for (Class<?> inner : FirstUmbrella.class.getDeclaredClasses()) {
            classes++;
            Check.due(inner + " is static", inner.getModifiers() & Modifier.STATIC, Modifier.STATIC);
            Check.due(inner + " is not public", inner.getModifiers() & Modifier.PUBLIC, 0);
            for (Method method : inner.getDeclaredMethods()) {
                Check.due("a name of the face again: " + method, names.contains(method.getName()) ? 1 : 0, 0);
            }
        }
        for (Method method : FirstUmbrella.class.getDeclaredMethods()) {
            boolean again = Modifier.isPrivate(method.getModifiers()) && names.contains(method.getName());
            Check.due("a name of the face again: " + method, again ? 1 : 0, 0);
        }
        Check.due("twelve classes at most", classes <= 12 ? 1 : 0, 1);
    }

    /** Rules 5 and 11: static fields that stay, twenty others, seven parameters. */
    private static void shapes(Class<?> one) {
        int fields = 0;
        for (Field field : one.getDeclaredFields()) {
            boolean isStatic = Modifier.isStatic(field.getModifiers());
            fields += isStatic ? 0 : 1;
            boolean stays = Modifier.isFinal(field.getModifiers());
            Check.due("static, then final: " + field, isStatic && !stays ? 1 : 0, 0);
        }
        Check.due("twenty fields at most in " + one, fields <= 20 ? 1 : 0, 1);
        for (Method method : one.getDeclaredMethods()) {
            Check.due("seven parameters at most: " + method, method.getParameterCount() <= 7 ? 1 : 0, 1);
        }
    }

    private static void sourceWords(String source) {
        String code = source.replaceAll("(?s)/\\*.*?\\*/", "").replaceAll("//[^\n]*", "");
        for (String word : FORBIDDEN) {
            Matcher found = Pattern.compile(word).matcher(code);
            Check.due("'" + word + "' in the source", found.find() ? 1 : 0, 0);
        }
    }

    /** A method's last brace stands alone, as far in as its head. */
    private static void methodLengths(String source) {
        String[] lines = source.split("\n");
        for (int i = 0; i < lines.length; i++) {
            if (lines[i].matches(" +[A-Za-z][\\w\\[\\] ]*\\(.*\\) \\{") && !lines[i].matches(" +(if|for|while|switch).*")) {
                String close = lines[i].replaceAll("\\S.*", "") + "}";
                int end = i;
                while (end < lines.length && !lines[end].equals(close)) {
                    end++;
                }
                Check.due("sixty lines at most: " + lines[i].trim(), end - i <= 60 ? 1 : 0, 1);
            }
        }
    }
}
