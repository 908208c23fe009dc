import java.io.IOException;
import java.lang.reflect.Constructor;
import java.lang.reflect.Field;
import java.lang.reflect.Method;
import java.lang.reflect.Modifier;
import java.nio.charset.StandardCharsets;
import java.nio.file.Files;
import java.nio.file.Path;
import java.util.ArrayList;
import java.util.Collections;
import java.util.HashSet;
import java.util.List;
import java.util.Set;
import java.util.regex.Matcher;
import java.util.regex.Pattern;

/** The face is the document's and nothing else, and the file keeps to what of LANGUAGE.md can be seen. */
public final class FaceTests {
    public static void main(String[] args) throws IOException {
        face();
        fieldsAndClasses();
        source();
        Due.end("FaceTests");
    }

    private static String told(Method m) {
        StringBuilder all = new StringBuilder();
        all.append(m.getReturnType().getSimpleName()).append(' ').append(m.getName()).append('(');
        String comma = "";
        for (Class<?> c : m.getParameterTypes()) {
            all.append(comma).append(c.getSimpleName());
            comma = ",";
        }
        all.append(')');
        String ahead = " throws ";
        for (Class<?> c : m.getExceptionTypes()) {
            all.append(ahead).append(c.getSimpleName());
            ahead = " ";
        }
        return all.toString();
    }

    /** The methods as the document's face has them, with what they take, but for its names. */
    private static List<String> asTheDocumentHasThem() {
        List<String> due = new ArrayList<>();
        Matcher m = Pattern.compile("public (\\w+) (\\w+)\\(([^)]*)\\)( throws [^;]+)?;").matcher(Doc.under("The public face"));
        while (m.find()) {
            String takes = m.group(3).replaceAll(" \\w+(, |$)", "$1").replace(" ", "");
            String out = m.group(4) == null ? "" : m.group(4).replace(",", "");
            due.add(m.group(1) + " " + m.group(2) + "(" + takes + ")" + out);
        }
        return due;
    }

    private static void face() {
        Doc.says("The public face", "public final class OneBeatsBoth { public OneBeatsBoth();");
        Due.holds("the class is public", Modifier.isPublic(OneBeatsBoth.class.getModifiers()));
        Due.holds("the class is final", Modifier.isFinal(OneBeatsBoth.class.getModifiers()));
        Due.holds("it is under nothing", OneBeatsBoth.class.getSuperclass() == Object.class);
        Due.is("interfaces", OneBeatsBoth.class.getInterfaces().length, 0);
        Constructor<?>[] made = OneBeatsBoth.class.getDeclaredConstructors();
        Due.is("constructors", made.length, 1);
        Due.holds("it is public", Modifier.isPublic(made[0].getModifiers()));
        Due.is("what it takes", made[0].getParameterCount(), 0);
        List<String> seen = new ArrayList<>();
        Set<String> names = new HashSet<>();
        for (Method m : OneBeatsBoth.class.getDeclaredMethods()) {
            if (Modifier.isPublic(m.getModifiers())) {
                seen.add(told(m));
                names.add(m.getName());
                Due.holds(m + " is no static one", !Modifier.isStatic(m.getModifiers()));
            }
        }
        for (Method m : OneBeatsBoth.class.getDeclaredMethods()) {
            if (!Modifier.isPublic(m.getModifiers())) {
                Due.holds(m + " is private", Modifier.isPrivate(m.getModifiers()));
                Due.holds(m + " has a name of its own", !names.contains(m.getName()));
                Due.holds(m + " has seven parameters at most", m.getParameterCount() <= 7);
            }
        }
        List<String> due = asTheDocumentHasThem();
        Due.is("the document's methods", due.size(), 33);
        Collections.sort(seen);
        Collections.sort(due);
        Due.same("the face", seen.toString(), due.toString());
    }

    private static void fieldsAndClasses() {
        Class<?>[] inside = OneBeatsBoth.class.getDeclaredClasses();
        Due.holds("classes", inside.length < 12);
        checkFields(OneBeatsBoth.class);
        for (Field f : OneBeatsBoth.class.getDeclaredFields()) {
            Due.holds(f + " is private", Modifier.isPrivate(f.getModifiers()));
        }
        for (Class<?> c : inside) {
            Due.holds(c + " is static", Modifier.isStatic(c.getModifiers()));
            Due.holds(c + " is not public", !Modifier.isPublic(c.getModifiers()) && !Modifier.isProtected(c.getModifiers()));
            checkFields(c);
        }
    }

    private static void checkFields(Class<?> c) {
        int own = 0;
        for (Field f : c.getDeclaredFields()) {
            if (Modifier.isStatic(f.getModifiers())) {
                Due.holds(f + " is final", Modifier.isFinal(f.getModifiers()));
            } else {
                own++;
            }
        }
        Due.holds("fields of " + c, own <= 20);
    }

    private static void source() throws IOException {
        byte[] bytes = Files.readAllBytes(Path.of("src/main/java/OneBeatsBoth.java"));
        for (byte b : bytes) {
            if (b < 0) {
                Due.holds("a sign above 127", false);
                break;
            }
        }
        String all = new String(bytes, StandardCharsets.ISO_8859_1);
        String code = all.replaceAll("(?s)/\\*.*?\\*/", "").replaceAll("//[^\n]*", "").replaceAll("\"[^\"\n]*\"", "\"\"");
        String[] out = {
            "->", "::", "@", "\\bpackage\\b", "\\bimport\\b", "\\bfinally\\b", "\\bassert\\b", "\\bsynchronized\\b",
            "\\bvar\\b", "Exact\\b", "\\bObject\\b", "\\bThrowable\\b", "\\bError\\b", "\\bcatch \\((Runtime)?Exception\\b",
            "NullPointerException", "IndexOutOfBoundsException", "ArithmeticException", "ClassCastException",
            "NegativeArraySizeException", "ArrayStoreException", "getMessage", "hashCode", "\\bequals\\b", "toString",
            "\\bnanoTime\\b", "\\bcurrentTimeMillis\\b", "\\bThread\\b", "\\bRandom\\b", "System\\.(?!arraycopy)"
        };
        Due.holds("arraycopy over numbers alone", !Pattern.compile("arraycopy\\([^;]*(people|Shelves)").matcher(code).find());
        for (String o : out) {
            Due.holds("nothing like " + o, !Pattern.compile(o).matcher(code).find());
        }
        Matcher lone = Pattern.compile("(?m)^    (?:public|private)[^;{=]*\\([^;{]*\\{\n((?:(?!    \\}\n).*\n)*)    \\}\n").matcher(code);
        while (lone.find()) {
            Due.holds("a method of sixty lines at most", lone.group(1).split("\n").length <= 60);
        }
    }
}
